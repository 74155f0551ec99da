import java.util.function.Supplier;

/** Compares answers with what is due, and counts the tests that pass and fail. */
final class Due {
    interface Test {
        void run();
    }

    private static final int SHOWN = 20;
    private static int passed = 0;
    private static int failed = 0;
    private static int wrong = 0;

    private Due() {
    }

    static void test(String name, Test test) {
        wrong = 0;
        try {
            test.run();
        } catch (RuntimeException e) {
            wrong("an exception that no call was due to throw: " + e);
            e.printStackTrace(System.out);
        }
        if (wrong == 0) {
            passed++;
        } else {
            failed++;
            System.out.println("FAILED " + name + ": " + wrong + " wrong");
        }
    }

    static void equal(String what, Object got, Object want) {
        if (!want.equals(got)) {
            wrong(what + " answered " + got + ", due is " + want);
        }
    }

    static void is(String what, long got, long want) {
        equal(what, got, want);
    }

    static void isTrue(String what, boolean got) {
        equal(what, got, true);
    }

    static void index(String what, Supplier<?> call) {
        equal(what, answer(call), "throws.IndexOutOfBoundsException");
    }

    static void argument(String what, Supplier<?> call) {
        equal(what, answer(call), "throws.IllegalArgumentException");
    }

    static void state(String what, Supplier<?> call) {
        equal(what, answer(call), "throws.IllegalStateException");
    }

    /** What a call answers, or the name of just the class that it throws. */
    static String answer(Supplier<?> call) {
        try {
            return String.valueOf(call.get());
        } catch (RuntimeException e) {
            return "throws." + e.getClass().getSimpleName();
        }
    }

    static void wrong(String text) {
        wrong++;
        if (wrong <= SHOWN) {
            System.out.println("  " + text);
        }
    }

    static boolean close() {
        System.out.println("project: " + passed + " passed, " + failed + " failed");
        return failed == 0;
    }
}
