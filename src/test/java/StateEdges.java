import java.math.BigInteger;
import java.util.ArrayList;
import java.util.List;

/** The edges that the document names for undo, digest and NONE (description, promises 27 and 28). */
final class StateEdges {
    private interface Change {
        void make(TaskSheets x);
    }

    private StateEdges() {
    }

    static void run() {
        Due.sentence(0, "Each successful call of a method whose description says \"undoable\" saves the state from before the "
            + "call, even if the call changes nothing", StateEdges::changesNothing);
        Due.sentence(0, "at most 4 states are saved", StateEdges::fourStates);
        Due.sentence(0, "and the oldest is dropped first", StateEdges::oldestDropped);
        Due.sentence(0, "The saved state contains everything except the task text.", StateEdges::everythingButText);
        Due.sentence(0, "A call that throws an exception changes nothing.", StateEdges::refusedIsNotSaved);
        Due.sentence(0, "`NONE = -1`: There is no such thing.", StateEdges::none);
        Due.sentence(27, "Restores the most recently saved state and removes it from the saved states.", StateEdges::undo);
        Due.sentence(27, "Returns the number of saved states that remain.", StateEdges::remaining);
        Due.sentence(28, "Start with h = 3259 and, for each of the following values v, set h = 31 * h + v", StateEdges::start);
        Due.sentence(28, "the length of the text; value() for 0 to 5; for each task the values of task() for what = 0 to 6; "
            + "bands() and, for each band and each of its rows, the value of row(); sheets() and, for each sheet, the values of "
            + "sheet() for what = 0 to 4; for each arrow the values of arrow() for what = 0 to 5; longestChain(); the number of "
            + "saved states.", StateEdges::digestOfPlans);
        Due.sentence(28, "with the overflow of long arithmetic ignored", StateEdges::overflow);
    }

    private static final Change[] CHANGES_OF_NOTHING = {x -> x.set(0, 8), x -> x.set(1, 20), x -> x.set(2, 1),
        x -> x.set(3, 0), x -> x.move(0, 3, 12), x -> x.move(1, 15, 4), x -> x.move(2, 16, 9)};

    private static void changesNothing() {
        for (Change change : CHANGES_OF_NOTHING) {
            TaskSheets x = undone();
            long before = x.digest();
            change.make(x);
            // Of what the digest tells, the number of saved states comes last.
            Due.is("it is saved, and that is all", x.digest(), before + 1);
            Due.is("undone", x.undo(), 0);
            Due.is("it changed nothing", x.digest(), before);
        }
        TaskSheets y = Plans.withText("t0,0,1;");
        y.parse();
        y.parse();
        Due.is("the second parse is saved", y.undo(), 1);
        Due.is("it changed nothing", y.value(4), 1);
    }

    /** The tasks of the small plan, with the initial settings and no saved state. */
    private static TaskSheets undone() {
        TaskSheets x = Plans.small();
        for (int n = 0; n < 4; n++) {
            x.undo();
        }
        Due.state("nothing is saved", x::undo);
        return x;
    }

    private static final Change[] CHANGES = {x -> x.set(0, 3), x -> x.addTask(1, 1, 1), x -> x.move(0, 30, 3),
        x -> x.removeTask(1), x -> x.addArrow(1, 0), x -> x.removeArrow(0), TaskSheets::parse, x -> x.set(3, 1)};

    private static void fourStates() {
        for (int calls = 0; calls <= 6; calls++) {
            TaskSheets x = new TaskSheets();
            for (int n = 0; n < calls; n++) {
                x.addTask(0, n, 1);
            }
            int saved = Math.min(calls, 4);
            for (int left = saved - 1; left >= 0; left--) {
                Due.is("left of " + calls, x.undo(), left);
            }
            Due.state("no more than " + saved + " of " + calls, x::undo);
            Due.is("tasks", x.value(4), calls - saved);
        }
        for (Change change : CHANGES) {
            TaskSheets x = Plans.small();
            change.make(x);
            Due.is("one of five was dropped", x.undo(), 3);
        }
    }

    private static void oldestDropped() {
        for (int calls = 1; calls <= 20; calls++) {
            TaskSheets x = new TaskSheets();
            for (int n = 1; n <= calls; n++) {
                x.set(1, 20 + n);
            }
            int saved = Math.min(calls, 4);
            for (int back = 1; back <= saved; back++) {
                Due.is("left", x.undo(), saved - back);
                Due.is("days after " + back + " of " + calls, x.value(1), 20 + calls - back);
            }
            Due.state("the older ones were dropped", x::undo);
            Due.is("days", x.value(1), 20 + calls - saved);
        }
    }

    private static void everythingButText() {
        for (Change change : CHANGES) {
            TaskSheets x = Plans.small();
            long before = x.digest();
            change.make(x);
            Due.isTrue("the change is seen", x.digest() != before);
            int left = x.undo();
            Due.is("three are left of four", left, 3);
            // Of what the digest tells, the number of saved states comes last.
            Due.is("all is back", x.digest(), before - 1);
        }
        TaskSheets x = Plans.withText("t0,0,1;");
        x.set(0, 3);
        Plans.write(x, "t1,1,1;");
        x.undo();
        Due.is("what was appended stays", x.parse(), 2);
        x.undo();
        x.set(0, 4);
        x.clearText();
        x.undo();
        Due.is("what was emptied stays empty", x.clearText(), 0);
        TaskSheets y = new TaskSheets();
        y.append('x');
        y.parse();
        Due.state("append saves nothing", y::undo);
        y.clearText();
        Due.state("clearText saves nothing", y::undo);
    }

    private static void refusedIsNotSaved() {
        TaskSheets x = Plans.tasks(0, 0, 1);
        Due.argument("set", () -> x.set(0, 2));
        Due.argument("addTask", () -> x.addTask(6, 0, 1));
        Due.index("move", () -> x.move(1, 0, 1));
        Due.argument("move", () -> x.move(0, 200, 1));
        Due.index("removeTask", () -> x.removeTask(1));
        Due.index("addArrow", () -> x.addArrow(0, 1));
        Due.argument("addArrow", () -> x.addArrow(0, 0));
        Due.index("removeArrow", () -> x.removeArrow(0));
        x.append('x');
        Due.is("parse", x.parse(), -10);
        Due.is("one state is saved", x.undo(), 0);
        Due.state("no more", x::undo);
        Due.is("tasks", x.value(4), 0);
    }

    private static void none() {
        Due.is("NONE", TaskSheets.NONE, -1);
        TaskSheets x = Plans.tasks(0, 0, 1, 0, 1, 1);
        x.addArrow(0, 1);
        Due.is("a free row", x.row(0, 7), -1);
        Due.is("a sheet that is not printed", x.sheetAt(0, 1), -1);
        Due.is("before the first part", x.part(0, 0, 3), -1);
        Due.is("behind the last part", x.part(0, 0, 4), -1);
        Due.is("no exit", x.arrow(0, 4), -1);
        Due.is("no bar", x.taskAt(0, 1, 1), -1);
    }

    private static void undo() {
        TaskSheets x = Plans.tasks(0, 0, 1);
        x.set(0, 3);
        x.set(0, 4);
        x.undo();
        Due.is("the most recent one", x.value(0), 3);
        x.undo();
        Due.is("not the same once more", x.value(0), 8);
        Due.is("undo itself saves nothing", x.undo(), 0);
        Due.is("the first task went", x.value(4), 0);
        Due.is("a plan goes on from there", x.addTask(5, 5, 5), 0);
        Due.is("it is saved", x.undo(), 0);
        TaskSheets y = new TaskSheets();
        for (int n = 0; n < 30; n++) {
            y.set(1, 5 + n);
            y.set(1, 40);
            Due.is("two by two, the ring goes round", y.undo(), Math.min(n + 1, 3));
            Due.is("days", y.value(1), 5 + n);
        }
    }

    private static void remaining() {
        TaskSheets x = new TaskSheets();
        x.set(0, 3);
        Due.is("one", x.undo(), 0);
        x.set(0, 3);
        x.set(0, 3);
        Due.is("two", x.undo(), 1);
        x.set(0, 3);
        x.set(0, 3);
        x.set(0, 3);
        Due.is("four", x.undo(), 3);
        x.set(0, 3);
        x.set(0, 3);
        Due.is("five", x.undo(), 3);
        Due.is("three", x.undo(), 2);
        Due.is("two", x.undo(), 1);
        Due.is("one", x.undo(), 0);
        Due.state("none", x::undo);
        Due.state("none, once more", x::undo);
    }

    /** The hash of values, its overflow cut off at the very end alone. */
    private static long hash(List<Long> values) {
        BigInteger h = BigInteger.valueOf(3259);
        for (long v : values) {
            h = h.multiply(BigInteger.valueOf(31)).add(BigInteger.valueOf(v));
        }
        return h.longValue();
    }

    private static void start() {
        List<Long> values = new ArrayList<>(List.of(0L, 8L, 20L, 1L, 0L, 0L, 0L, 0L, 0L, 0L, 0L));
        Due.is("a new object", new TaskSheets().digest(), hash(values));
        values.set(0, 150L);
        Due.is("150 bytes", Plans.withText(Plans.fullText()).digest(), hash(values));
        TaskSheets x = Plans.withText(Plans.fullText());
        for (int n = 0; n < 5; n++) {
            x.set(0, 8);
        }
        values.set(10, 4L);
        Due.is("four saved states", x.digest(), hash(values));
    }

    /** The values that the document lists, asked one by one. */
    private static List<Long> values(TaskSheets x, int textLength, int savedStates) {
        List<Long> values = new ArrayList<>(List.of((long) textLength));
        for (int what = 0; what <= 5; what++) {
            values.add((long) x.value(what));
        }
        for (int task = 0; task < x.value(4); task++) {
            for (int what = 0; what <= 6; what++) {
                values.add((long) x.task(task, what));
            }
        }
        values.add((long) x.bands());
        for (int band = 0; band < x.bands(); band++) {
            for (int row = 0; row < x.value(0); row++) {
                values.add((long) x.row(band, row));
            }
        }
        values.add((long) x.sheets());
        for (int sheet = 0; sheet < x.sheets(); sheet++) {
            for (int what = 0; what <= 4; what++) {
                values.add((long) x.sheet(sheet, what));
            }
        }
        for (int arrow = 0; arrow < x.value(5); arrow++) {
            for (int what = 0; what <= 5; what++) {
                values.add((long) x.arrow(arrow, what));
            }
        }
        values.add((long) x.longestChain());
        values.add((long) savedStates);
        return values;
    }

    private static void digestOfPlans() {
        Due.is("a new object", new TaskSheets().digest(), hash(values(new TaskSheets(), 0, 0)));
        Due.is("one task", Plans.tasks(5, 199, 60).digest(), hash(values(Plans.tasks(5, 199, 60), 0, 1)));
        Due.is("a small plan", Plans.small().digest(), hash(values(Plans.small(), 20, 4)));
        TaskSheets undone = Plans.small();
        undone.undo();
        TaskSheets asked = Plans.small();
        asked.undo();
        Due.is("undone", undone.digest(), hash(values(asked, 20, 3)));
        Due.is("four bands in either order", bands(0).digest(), hash(values(bands(0), 3, 4)));
        Due.is("four bands in either order", bands(1).digest(), hash(values(bands(1), 3, 4)));
        Due.isTrue("the orders differ", bands(0).digest() != bands(1).digest());
    }

    private static TaskSheets bands(int order) {
        TaskSheets x = Plans.tasks(0, 4, 20, 0, 30, 6, 0, 7, 8, 2, 0, 1, 2, 1, 2, 5, 60, 9, 5, 50, 9);
        x.set(0, 3);
        x.set(1, 15);
        x.addArrow(0, 1);
        x.addArrow(4, 2);
        x.addArrow(5, 6);
        x.addArrow(3, 4);
        x.addArrow(4, 1);
        x.set(3, order);
        Plans.write(x, "t0,");
        return x;
    }

    private static void overflow() {
        TaskSheets x = Plans.full();
        x.set(0, 3);
        x.set(1, 5);
        long first = x.digest();
        Due.is("asked once more", x.digest(), first);
        boolean negative = false;
        boolean positive = false;
        for (int n = 0; n < 20; n++) {
            x.move(0, n, 1);
            negative = negative || x.digest() < 0;
            positive = positive || x.digest() > 0;
        }
        Due.isTrue("it runs over into negative numbers and back", negative && positive);
        BigInteger h = BigInteger.valueOf(3259);
        for (long v : new long[] {0, 8, 20, 1, 0, 0, 0, 0, 0, 0, 0}) {
            h = h.multiply(BigInteger.valueOf(31)).add(BigInteger.valueOf(v));
        }
        Due.isTrue("even that of a new object would be longer", h.bitLength() > 63);
        Due.is("its low 64 bits", new TaskSheets().digest(), h.longValue());
    }
}
