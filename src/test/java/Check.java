/** Compares answers with those that are due, prints the others, and ends a test. */
final class Check {
    private static String test = "";
    private static int asked = 0;
    private static int askedBefore = 0;
    private static int wrong = 0;

    private Check() {
    }

    /** What is asked from here on is of the test of this name. */
    static void begin(String name) {
        test = name + ": ";
        askedBefore = asked;
    }

    /** A test that asks nothing could not fail, so it is wrong itself. */
    static void finish() {
        holds("something was asked", asked > askedBefore);
    }

    static void due(String call, long got, long want) {
        asked++;
        if (got != want) {
            wrong++;
            System.out.println(test + call + " answered " + got + ", due is " + want);
        }
    }

    static void holds(String what, boolean is) {
        asked++;
        if (!is) {
            wrong++;
            System.out.println(test + "does not hold: " + what);
        }
    }

    static boolean allRight() {
        return wrong == 0;
    }

    static void end() {
        System.out.println(asked + " answers asked, " + wrong + " not as due");
        if (wrong != 0 || asked == 0) {
            System.exit(1);
        }
    }
}
