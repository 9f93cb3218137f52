import java.lang.reflect.Constructor;
import java.lang.reflect.Field;
import java.lang.reflect.Method;
import java.lang.reflect.Modifier;
import java.util.Arrays;
import java.util.TreeSet;

/** The public face is the document's, and there is no other member that others could see. */
public final class FaceTest {
    private static final String[] METHODS = {
        "square(int)", "clear()", "sum(int)", "term(int,int,int)", "many(int)", "empty()", "element(int)",
        "act(int,int,int)", "space(int,int,int)", "does(int)", "about(int,int)", "fault(int)", "live(int,int)",
        "joins(int,int,int)", "balance(int)", "differ(int,int,int,int)", "page(int,int,int)", "count(int)"};

    public static void main(String[] args) {
        Check.due("BAD", SquareTower.BAD, -1);
        Check.due("STATE", SquareTower.STATE, -2);
        Check.due("FULL", SquareTower.FULL, -3);
        Check.due("NONE", SquareTower.NONE, -9);
        int modifiers = SquareTower.class.getModifiers();
        Check.holds("public final class", Modifier.isPublic(modifiers) && Modifier.isFinal(modifiers));
        Check.holds("no package", SquareTower.class.getPackageName().isEmpty());
        constructors();
        methods();
        fields();
        inside();
        Check.finish("FaceTest");
    }

    private static void constructors() {
        Constructor<?>[] made = SquareTower.class.getDeclaredConstructors();
        Check.due("constructors", made.length, 1);
        Check.due("its parameters", made[0].getParameterCount(), 0);
        Check.holds("it is public", Modifier.isPublic(made[0].getModifiers()));
    }

    private static void methods() {
        TreeSet<String> visible = new TreeSet<>();
        TreeSet<String> hidden = new TreeSet<>();
        for (Method m : SquareTower.class.getDeclaredMethods()) {
            if (Modifier.isPrivate(m.getModifiers())) {
                hidden.add(m.getName());
                continue;
            }
            Check.holds(m.getName() + " is public, of an object, and answers an int",
                    Modifier.isPublic(m.getModifiers()) && !Modifier.isStatic(m.getModifiers())
                    && m.getReturnType() == int.class);
            visible.add(signature(m));
        }
        Check.holds("the methods are the document's: " + visible,
                visible.equals(new TreeSet<>(Arrays.asList(METHODS))));
        for (String name : METHODS) {
            String bare = name.substring(0, name.indexOf('('));
            Check.holds("no private method is named " + bare, !hidden.contains(bare));
        }
    }

    private static String signature(Method m) {
        StringBuilder text = new StringBuilder(m.getName()).append('(');
        for (Class<?> type : m.getParameterTypes()) {
            if (text.charAt(text.length() - 1) != '(') {
                text.append(',');
            }
            text.append(type.getSimpleName());
        }
        return text.append(')').toString();
    }

    private static void fields() {
        TreeSet<String> visible = new TreeSet<>();
        for (Field f : SquareTower.class.getDeclaredFields()) {
            if (!Modifier.isPrivate(f.getModifiers())) {
                visible.add(f.getName());
            }
        }
        Check.holds("constants: " + visible, visible.equals(new TreeSet<>(Arrays.asList("BAD", "STATE", "FULL", "NONE"))));
    }

    private static void inside() {
        for (Class<?> c : SquareTower.class.getDeclaredClasses()) {
            int modifiers = c.getModifiers();
            Check.holds(c.getName() + " is static and hidden", Modifier.isStatic(modifiers)
                    && !Modifier.isPublic(modifiers) && !Modifier.isProtected(modifiers));
            int own = 0;
            for (Field f : c.getDeclaredFields()) {
                Check.holds(c.getName() + "." + f.getName() + ": static fields are final",
                        !Modifier.isStatic(f.getModifiers()) || Modifier.isFinal(f.getModifiers()));
                own += Modifier.isStatic(f.getModifiers()) ? 0 : 1;
            }
            Check.holds(c.getName() + " has twenty fields at most", own <= 20);
            for (Method m : c.getDeclaredMethods()) {
                Check.holds(m.getName() + " has seven parameters at most", m.getParameterCount() <= 7);
                Check.holds(m.getName() + " is no name of the face", !isOfFace(m.getName()));
            }
        }
    }

    private static boolean isOfFace(String name) {
        for (String method : METHODS) {
            if (method.startsWith(name + "(")) {
                return true;
            }
        }
        return false;
    }
}
