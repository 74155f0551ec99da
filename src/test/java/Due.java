import java.util.function.Function;
import java.util.function.Supplier;

/** Compares answers with what is due, and counts the tests that pass and fail. */
final class Due {
    interface Test {
        void run();
    }

    private static final int SHOWN = 20;
    private static int passed = 0;
    private static int failed = 0;
    private static int wrong = 0;

    private Due() {
    }

    static void test(String name, Test test) {
        wrong = 0;
        try {
            test.run();
        } catch (RuntimeException e) {
            wrong("an exception that no call was due to throw: " + e);
            e.printStackTrace(System.out);
        }
        if (wrong == 0) {
            passed++;
        } else {
            failed++;
            System.out.println("FAILED " + name + ": " + wrong + " wrong");
        }
    }

    /** A test of a sentence of the document: of a promise, or of what stands before the first one (0). */
    static void sentence(int promise, String quote, Test test) {
        Document.quote(promise, quote);
        test((promise == 0 ? "description" : "promise " + promise) + ", '" + quote + "'", () -> {
            isTrue("the document says so", Document.says(promise, quote));
            test.run();
        });
    }

    static void equal(String what, Object got, Object want) {
        if (!want.equals(got)) {
            wrong(what + " answered " + got + ", due is " + want);
        }
    }

    static void is(String what, long got, long want) {
        equal(what, got, want);
    }

    static void isTrue(String what, boolean got) {
        equal(what, got, true);
    }

    static void index(String what, Supplier<?> call) {
        equal(what, answer(call), "throws.IndexOutOfBoundsException");
    }

    static void argument(String what, Supplier<?> call) {
        equal(what, answer(call), "throws.IllegalArgumentException");
    }

    static void state(String what, Supplier<?> call) {
        equal(what, answer(call), "throws.IllegalStateException");
    }

    /** A refused call: it throws just that, and leaves the object as one is on which it was never called. */
    static void refused(String what, String exception, Supplier<TaskSheets> made, Function<TaskSheets, ?> call) {
        TaskSheets x = made.get();
        equal(what, answer(() -> call.apply(x)), "throws." + exception);
        equal("what stands behind " + what, Plans.whole(x), Plans.whole(made.get()));
    }

    /** A question: it leaves the object as one is on which it was never called. */
    static void question(String what, Supplier<TaskSheets> made, Function<TaskSheets, ?> call) {
        TaskSheets x = made.get();
        String first = answer(() -> call.apply(x));
        equal(what + " once more", answer(() -> call.apply(x)), first);
        equal("what stands behind " + what, Plans.whole(x), Plans.whole(made.get()));
    }

    /** What a call answers, or the name of just the class that it throws. */
    static String answer(Supplier<?> call) {
        try {
            return String.valueOf(call.get());
        } catch (RuntimeException e) {
            return "throws." + e.getClass().getSimpleName();
        }
    }

    static void wrong(String text) {
        wrong++;
        if (wrong <= SHOWN) {
            System.out.println("  " + text);
        }
    }

    static boolean close() {
        System.out.println("project: " + passed + " passed, " + failed + " failed");
        return failed == 0;
    }
}
