/** Counts what was checked, and prints what was not as it is due. */
final class Check {

    /** A call that may throw one of the exceptions of the document. */
    interface Call {
        Object answer();
    }

    /** A call with a number, of which a range is allowed. */
    interface NumberCall {
        Object answer(int number);
    }

    private static int passed = 0;
    private static int failed = 0;
    private static String test = "";

    private Check() {
    }

    /** From here on messages tell this test's name. */
    static void begin(String name) {
        test = name + ", ";
    }

    static void end() {
        test = "";
    }

    static void that(String what, Object got, Object due) {
        if (due.equals(got)) {
            passed++;
        } else {
            failed++;
            System.out.println(test + what + ": got " + got + ", due is " + due);
        }
    }

    /** The exception must be of just this class, not of one below it. */
    static void fails(String what, Class<?> due, Call call) {
        that(what, outcome(call), thrown(due));
    }

    static void succeeds(String what, Call call) {
        Object outcome = outcome(call);
        that(what + " (" + outcome + ")", outcome.toString().startsWith("throws."), false);
    }

    /** Each number from low to high succeeds, and none beside them does. */
    static void range(int low, int high, Class<?> due, NumberCall call) {
        for (int number = low; number <= high; number++) {
            int inside = number;
            succeeds("" + number, () -> call.answer(inside));
        }
        beside(low, high, due, call);
    }

    static void beside(int low, int high, Class<?> due, NumberCall call) {
        int[] outside = {low - 1, low - 2, low - 256, low - 65536, Integer.MIN_VALUE,
            Integer.MIN_VALUE + 1, high + 1, high + 2, high + 256, high + 65536,
            Integer.MAX_VALUE - 1, Integer.MAX_VALUE};
        for (int number : outside) {
            fails("" + number, due, () -> call.answer(number));
        }
    }

    static String thrown(Class<?> exception) {
        return "throws." + exception.getSimpleName();
    }

    static Object outcome(Call call) {
        try {
            return call.answer();
        } catch (RuntimeException thrown) {
            return thrown(thrown.getClass());
        }
    }

    static int failures() {
        return failed;
    }

    static int checks() {
        return passed + failed;
    }

    static void printCounts() {
        System.out.println(passed + " passed, " + failed + " failed");
    }
}
