import java.lang.management.ManagementFactory;
import java.lang.reflect.Array;
import java.lang.reflect.Field;
import java.lang.reflect.Modifier;
import java.util.ArrayDeque;
import java.util.Collections;
import java.util.IdentityHashMap;
import java.util.Set;

/** What an object takes of the room that all calls of a run share, and that calls take nothing more. */
public final class RoomTest {
    private static final int CALLS = 512;
    private static final long OBJECTS = 600_000 / CALLS;
    private static final long CELLS = 7_300_000 / CALLS;

    private static long objects = 0;
    private static long cells = 0;

    public static void main(String[] args) throws IllegalAccessException {
        measure(new SquareTower());
        System.out.println("an object takes " + objects + " objects and arrays, " + cells + " fields and elements");
        Check.holds("as many objects as calls would fit, objects", objects <= OBJECTS);
        Check.holds("as many objects as calls would fit, fields and elements", cells <= CELLS);
        callsTakeNothing();
        Check.finish("RoomTest");
    }

    private static void measure(Object start) throws IllegalAccessException {
        Set<Object> seen = Collections.newSetFromMap(new IdentityHashMap<>());
        ArrayDeque<Object> open = new ArrayDeque<>();
        open.add(start);
        while (!open.isEmpty()) {
            Object next = open.poll();
            if (!seen.add(next)) {
                continue;
            }
            objects++;
            if (next.getClass().isArray()) {
                cells += Array.getLength(next);
                for (int k = 0; !next.getClass().getComponentType().isPrimitive() && k < Array.getLength(next); k++) {
                    open.add(Array.get(next, k));
                }
                continue;
            }
            for (Field field : next.getClass().getDeclaredFields()) {
                if (!Modifier.isStatic(field.getModifiers())) {
                    cells++;
                    field.setAccessible(true);
                    if (!field.getType().isPrimitive() && field.get(next) != null) {
                        open.add(field.get(next));
                    }
                }
            }
        }
    }

    private static void callsTakeNothing() {
        if (!(ManagementFactory.getThreadMXBean() instanceof com.sun.management.ThreadMXBean)) {
            return;
        }
        com.sun.management.ThreadMXBean bean = (com.sun.management.ThreadMXBean) ManagementFactory.getThreadMXBean();
        SquareTower x = new SquareTower();
        long sum = allCalls(x);
        long before = bean.getThreadAllocatedBytes(Thread.currentThread().getId());
        long between = bean.getThreadAllocatedBytes(Thread.currentThread().getId());
        sum -= allCalls(x);
        long after = bean.getThreadAllocatedBytes(Thread.currentThread().getId());
        Check.due("bytes that calls take", after - between, between - before);
        Check.due("the same answers again", sum, 0);
    }

    private static long allCalls(SquareTower x) {
        long sum = x.clear() * 0L;
        for (int i = 0; i < 4; i++) {
            sum += x.square(i + 1);
        }
        for (int i = -1; i < 6; i++) {
            sum += x.sum(i) + x.term(0, i, 1) + x.term(1, i, 1) + x.many(i);
        }
        sum += x.empty() * 0L;
        for (int e = 0; e < 13; e++) {
            sum += x.element(e % 2);
        }
        for (int t = 0; t < 15; t++) {
            x.act(1, 0, 0);
            sum += x.live(5, t) + x.joins(0, 2, t) + x.balance(t) + x.differ(2, 0, t, 1) + x.page(3, 0, t);
        }
        for (int name = 0; name < 3; name++) {
            sum += x.space(name, 1, 6) + x.does(0) + x.about(0, 1) + x.fault(0) + x.count(name) + x.live(5, 14);
        }
        return sum;
    }
}
