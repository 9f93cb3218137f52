/** Counts answers that are not as due, and ends a test with exit code 1 if there was one. */
final class Check {
    private static final int MOST_SHOWN = 40;
    private static long asked = 0;
    private static long wrong = 0;
    private static String test = "";

    private Check() {
    }

    /** What is asked from now on is shown as this test's: how much has been asked before. */
    static long begin(String name) {
        test = name;
        return asked;
    }

    static void due(String call, long got, long want) {
        asked++;
        if (got != want) {
            wrong++;
            if (wrong <= MOST_SHOWN) {
                System.out.println(test + call + " answered " + got + ", due is " + want);
            }
        }
    }

    static void holds(String what, boolean fact) {
        due(what, fact ? 1 : 0, 1);
    }

    static void finish(String name) {
        System.out.println(name + ": " + asked + " answers, " + wrong + " not as due");
        if (wrong != 0 || asked == 0) {
            System.exit(1);
        }
    }
}
