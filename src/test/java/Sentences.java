import java.lang.reflect.InvocationTargetException;
import java.lang.reflect.Method;
import java.util.ArrayList;
import java.util.Comparator;
import java.util.List;

/** Runs the tests of a class, each of which is held to one sentence of the document. */
final class Sentences {
    /** All classes of such tests. */
    static final Class<?>[] CLASSES = {
        BoundsOfWordsTest.class, BoundsOfSpacesTest.class, BoundsOfTowersTest.class, BoundsOfDifferencesTest.class,
        BoundsOfTermsTest.class};
    static final String TERMS = "Terms";
    static final String WHAT_IT_IS = "What it is";
    /** Stands ahead of all promises. */
    static final String REFUSED = "Refused, and nothing changes, the first of these: BAD (a number is not as told, or "
            + "there is no such thing), STATE (as told), FULL.";

    private Sentences() {
    }

    /** The tests of a class by promises, then by names. */
    static List<Method> of(Class<?> tests) {
        List<Method> found = new ArrayList<>();
        for (Method method : tests.getDeclaredMethods()) {
            if (method.isAnnotationPresent(Sentence.class)) {
                found.add(method);
            }
        }
        found.sort(Comparator.comparing(Method::getName));
        return found;
    }

    static void run(Class<?> tests) {
        List<Method> found = of(tests);
        for (Method test : found) {
            Sentence sentence = test.getAnnotation(Sentence.class);
            long before = Check.begin("promise " + sentence.promise() + ", " + test.getName() + " (" + sentence.says()
                    + "): ");
            try {
                test.invoke(null);
            } catch (InvocationTargetException thrown) {
                thrown.getCause().printStackTrace(System.out);
                Check.holds("no exception", false);
            } catch (IllegalAccessException hidden) {
                Check.holds("a test that can be called", false);
            }
            Check.holds("the test asks something", Check.begin("") > before);
        }
        Check.finish(tests.getName() + ", " + found.size() + " sentences");
    }
}
