/** Counts what was checked, and prints what was not as it is due. */
final class Check {

    /** A call that may throw one of the exceptions of the document. */
    interface Call {
        Object answer();
    }

    private static int passed = 0;
    private static int failed = 0;

    private Check() {
    }

    static void that(String what, Object got, Object due) {
        if (due.equals(got)) {
            passed++;
        } else {
            failed++;
            System.out.println(what + ": got " + got + ", due is " + due);
        }
    }

    /** The exception must be of just this class, not of one below it. */
    static void fails(String what, Class<?> due, Call call) {
        that(what, outcome(call), "throws." + due.getSimpleName());
    }

    static Object outcome(Call call) {
        try {
            return call.answer();
        } catch (RuntimeException thrown) {
            return "throws." + thrown.getClass().getSimpleName();
        }
    }

    static int failures() {
        return failed;
    }

    static void printCounts() {
        System.out.println(passed + " passed, " + failed + " failed");
    }
}
