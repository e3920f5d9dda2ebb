/** Counts the tests and tells what is wrong in them. */
final class Report {
    private static final int MOST_LINES = 20;

    private static int passed = 0;
    private static int failed = 0;
    private static int wrong = 0;
    private static String test = "";

    private Report() {
    }

    static void test(String name, Runnable body) {
        test = name;
        wrong = 0;
        try {
            body.run();
        } catch (RuntimeException e) {
            wrong++;
            System.out.println(name + ": threw " + e);
        }
        if (wrong == 0) {
            passed++;
        } else {
            failed++;
            System.out.println("FAILED " + name + ": " + wrong + " wrong");
        }
    }

    static void due(String call, long got, long want) {
        if (got != want) {
            wrong(call + " answered " + got + ", due is " + want);
        }
    }

    static void holds(String what, boolean holds) {
        if (!holds) {
            wrong(what + " does not hold");
        }
    }

    static void wrong(String what) {
        wrong++;
        // One broken rule can make thousands of answers wrong; the first ones are enough.
        if (wrong <= MOST_LINES) {
            System.out.println(test + ": " + what);
        }
    }

    /** Whether all passed. */
    static boolean close() {
        System.out.println(passed + " passed, " + failed + " failed");
        return failed == 0;
    }
}
