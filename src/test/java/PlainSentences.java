import java.util.function.BiFunction;
import java.util.function.Function;
import java.util.function.Supplier;

/**
 * The plain sentences of the document: what each call is for, what its arguments are, and which calls are undoable.
 * What is due for the small plan (Plans.small) was found by hand:
 * one band [100 0 2 104 1]; task 0 on days 3 to 14, task 2 on days 16 to 24, task 1 on days 15 to 18; 10 days a sheet.
 */
final class PlainSentences {
    private static final String ARGUMENT = "throws.IllegalArgumentException";
    private static final String INDEX = "throws.IndexOutOfBoundsException";

    private PlainSentences() {
    }

    static void run() {
        Due.sentence(0, "A group begins with a heading, which takes a row; each task takes a row.", PlainSentences::headings);
        Due.sentence(0, "A possible sheet is a band together with a strip.", PlainSentences::possibleSheets);
        Due.sentence(0, "a day of a task that has its row in this band", PlainSentences::daysOfOtherBands);
        Due.sentence(0, "Otherwise it leaves by an exit", PlainSentences::leavesByExit);
        Due.sentence(0, "If several exceptions apply, the one that is listed first is thrown.", PlainSentences::listedFirst);
        whatCallsChange();
        whatCallsTell();
        numbersOfThings();
        ranges();
        undoable();
    }

    // ---- the description

    private static void headings() {
        TaskSheets x = Plans.groups(20, 1, 1, 2, 3);
        Due.equal("three headings and six tasks", Plans.rows(x), "[100 0 101 1 2 102 3 4 5" + " .".repeat(11) + "]");
        x.removeTask(0);
        Due.equal("two headings and five tasks", Plans.rows(x), "[101 0 1 102 2 3 4" + " .".repeat(13) + "]");
    }

    private static void possibleSheets() {
        TaskSheets x = Plans.tasks(0, 0, 1, 1, 10, 1);
        x.set(0, 3);
        x.set(1, 10);
        Due.equal("two of the four of two bands and two strips", Plans.sheets(x), "0/0 1/1");
        int[][] due = {{0, 0, 0}, {0, 1, -1}, {1, 0, -1}, {1, 1, 1}};
        for (int[] row : due) {
            Due.is("band " + row[0] + ", strip " + row[1], x.sheetAt(row[0], row[1]), row[2]);
        }
    }

    private static void daysOfOtherBands() {
        TaskSheets x = Plans.tasks(0, 0, 1, 1, 40, 1);
        Due.equal("one band", Plans.sheets(x), "0/0 0/2");
        x.set(0, 3);
        Due.equal("a band each", Plans.sheets(x), "0/0 1/2");
    }

    private static void leavesByExit() {
        TaskSheets x = Plans.tasks(0, 0, 1, 0, 20, 1, 1, 0, 1);
        x.set(0, 3);
        x.addArrow(0, 1);
        x.addArrow(0, 2);
        Due.is("another strip", x.arrow(0, 4), 1);
        Due.is("another band", x.arrow(1, 4), 2);
        Due.is("both leave on sheet 0", x.sheet(0, 3), 2);
        for (int sheet = 0; sheet < x.sheets(); sheet++) {
            Due.is("none is drawn on sheet " + sheet, x.sheet(sheet, 4), 0);
        }
    }

    private static void answers(String what, Supplier<?> call, String due) {
        Due.equal(what, Due.answer(call), due);
    }

    private static void listedFirst() {
        TaskSheets x = Plans.full();
        String state = "throws.IllegalStateException";
        answers("addTask, a group out of range before 24 tasks", () -> x.addTask(6, 0, 1), ARGUMENT);
        answers("addTask, 24 tasks alone", () -> x.addTask(5, 0, 1), state);
        answers("move, no such task before a day out of range", () -> x.move(24, 200, 1), INDEX);
        answers("addArrow, no such task before the same", () -> x.addArrow(24, 24), INDEX);
        answers("addArrow, no such second task before 30 arrows", () -> x.addArrow(0, 24), INDEX);
        answers("addArrow, the same before 30 arrows", () -> x.addArrow(3, 3), ARGUMENT);
        answers("addArrow, 30 arrows alone", () -> x.addArrow(23, 10), state);
        answers("task, no such task before what", () -> x.task(24, 7), INDEX);
        answers("sheet, no such sheet before what", () -> x.sheet(x.sheets(), 5), INDEX);
        answers("sheetAt, no such band before the strip", () -> x.sheetAt(x.bands(), -1), INDEX);
        answers("part, no such task before what", () -> x.part(24, 0, 5), INDEX);
        answers("part, no such part before what", () -> x.part(0, 60, 5), INDEX);
        answers("arrow, no such arrow before what", () -> x.arrow(30, 6), INDEX);
        answers("append, a value out of range before 150 bytes", () -> x.append(128), ARGUMENT);
        answers("append, 150 bytes alone", () -> x.append(127), state);
    }

    // ---- what each call is for

    private static void whatCallsChange() {
        Due.sentence(2, "Sets a setting.", () -> {
            TaskSheets x = Plans.small();
            x.set(1, 30);
            Due.is("days", x.value(1), 30);
            Due.equal("all on one sheet", Plans.sheets(x), "0/0");
        });
        Due.sentence(4, "Adds a task.", () -> {
            TaskSheets x = Plans.small();
            x.addTask(2, 40, 5);
            Due.equal("it stands", x.task(3, 0) + " " + x.task(3, 1) + " " + x.task(3, 2), "2 40 5");
            Due.equal("its rows", Plans.rows(x), "[100 0 2 102 3][104 1 . . .]");
        });
        Due.sentence(5, "Moves a task", () -> {
            TaskSheets x = Plans.small();
            x.move(0, 17, 3);
            Due.equal("it stands behind task 2", Plans.rows(x), "[100 2 0 104 1]");
            Due.is("the sheet of strip 0 is dropped", x.sheets(), 2);
        });
        Due.sentence(6, "Removes a task, with all its arrows", () -> {
            TaskSheets x = Plans.small();
            Due.is("both arrows of task 0", x.removeTask(0), 2);
            Due.equal("rows", Plans.rows(x), "[100 1 104 0 .]");
            Due.is("arrows", x.value(5), 0);
        });
        Due.sentence(7, "Adds an arrow.", () -> {
            TaskSheets x = Plans.small();
            x.addArrow(1, 2);
            Due.equal("it stands", x.arrow(2, 0) + " " + x.arrow(2, 1), "1 2");
            Due.is("it is drawn on sheet 1 too", x.sheet(1, 4), 2);
        });
        Due.sentence(8, "Removes an arrow", () -> {
            TaskSheets x = Plans.small();
            x.removeArrow(0);
            Due.equal("the other one", x.arrow(0, 0) + " " + x.arrow(0, 1), "2 0");
            Due.is("none is drawn on sheet 1", x.sheet(1, 4), 0);
        });
        Due.sentence(24, "Appends a byte to the task text.", () -> {
            TaskSheets x = Plans.withText("t0,0,1");
            Due.is("it ends too early", x.parse(), -16);
            x.append(';');
            Due.is("now it does not", x.parse(), 1);
        });
    }

    private interface Ask {
        long of(int what);
    }

    private static void tells(String what, Ask ask, long... due) {
        for (int i = 0; i < due.length; i++) {
            Due.is(what + ", what " + i, ask.of(i), due[i]);
        }
    }

    private static void whatCallsTell() {
        TaskSheets x = Plans.small();
        Due.sentence(3, "Returns a setting or a number.", () -> tells("value", x::value, 5, 10, 1, 0, 3, 2));
        Due.sentence(9, "Returns something about a task.", () -> {
            tells("task 0", what -> x.task(0, what), 0, 3, 12, 14, 0, 1, 2);
            tells("task 1", what -> x.task(1, what), 4, 15, 4, 18, 0, 4, 1);
            tells("task 2", what -> x.task(2, what), 0, 16, 9, 24, 0, 2, 2);
        });
        Due.sentence(10, "Returns the number of bands.", () -> Due.is("bands", x.bands(), 1));
        Due.sentence(11, "Returns what is in a row of a band.", () -> tells("rows", row -> x.row(0, row), 100, 0, 2, 104, 1));
        Due.sentence(12, "Returns their number.", () -> Due.is("sheets", x.sheets(), 3));
        Due.sentence(13, "Returns something about a sheet.", () -> {
            tells("sheet 0", what -> x.sheet(0, what), 0, 0, 1, 1, 0);
            tells("sheet 1", what -> x.sheet(1, what), 0, 1, 3, 0, 1);
            tells("sheet 2", what -> x.sheet(2, what), 0, 2, 1, 1, 0);
        });
        Due.sentence(14, "Returns the sheet of a band and a strip.",
            () -> tells("strips", strip -> x.sheetAt(0, strip), 0, 1, 2, -1));
        Due.sentence(15, "Returns something about a part of a bar.", () -> {
            tells("task 0, part 0", what -> x.part(0, 0, what), 0, 3, 7, -1, 1);
            tells("task 0, part 1", what -> x.part(0, 1, what), 1, 0, 5, 0, -1);
            tells("task 1", what -> x.part(1, 0, what), 1, 5, 4, -1, -1);
            tells("task 2, part 0", what -> x.part(2, 0, what), 1, 6, 4, -1, 2);
            tells("task 2, part 1", what -> x.part(2, 1, what), 2, 0, 5, 1, -1);
        });
        Due.sentence(15, "0 its sheet, 1 the place of its first day on it, 2 the number of its days",
            () -> tells("task 2, part 1", what -> x.part(2, 1, what), 2, 0, 5));
        Due.sentence(16, "Returns something about an arrow.", () -> {
            tells("arrow 0", what -> x.arrow(0, what), 0, 1, 1, 1, -1, 0);
            tells("arrow 1", what -> x.arrow(1, what), 2, 0, 2, 0, 1, 1);
        });
        Due.sentence(17, "Returns the arrow of an exit.", () -> Due.is("exit 1", x.arrowOf(1), 1));
        Due.sentence(17, "Returns the number of the arrow.", () -> Due.is("exit 1", x.arrowOf(1), 1));
        Due.sentence(18, "Returns the task that stands at a place of a sheet.", PlainSentences::placesOfSmall);
        Due.sentence(19, "Returns the share of the places of all printed sheets that bars cover.",
            () -> Due.equal("25 days on 3 sheets of 50 places", x.covered(), 25.0 / 150.0));
        Due.sentence(20, "Tells how many sheets there would be", () -> {
            Due.is("5 rows of 30 days", x.sheetsWith(5, 30), 1);
            Due.is("4 rows of 10 days", x.sheetsWith(4, 10), 4);
        });
        Due.sentence(21, "Finds the number of days of a sheet", () -> Due.is("days 3 to 24 on one", x.fewestExits(), 25));
        Due.sentence(22, "Tells by how many days a task would have to begin later",
            () -> tells("task", x::delay, 24 + 1 - 3, 0, 0));
        Due.sentence(23, "Returns the longest chain of arrows that are not late", () -> Due.is("0 to 1", x.longestChain(), 2));
        Due.sentence(28, "Returns a hash of the state.", () -> {
            Due.is("the same state", x.digest(), Plans.small().digest());
            TaskSheets other = Plans.small();
            other.move(1, 16, 4);
            Due.isTrue("another state", other.digest() != x.digest());
        });
    }

    private static void placesOfSmall() {
        String[][] due = {
            {"..........", "...0000000", "..........", "..........", ".........."},
            {"..........", "00000.....", "......2222", "..........", ".....1111."},
            {"..........", "..........", "22222.....", "..........", ".........."}};
        TaskSheets x = Plans.small();
        for (int sheet = 0; sheet < 3; sheet++) {
            for (int row = 0; row < 5; row++) {
                StringBuilder got = new StringBuilder();
                for (int place = 0; place < 10; place++) {
                    int task = x.taskAt(sheet, row, place);
                    got.append(task == TaskSheets.NONE ? "." : String.valueOf(task));
                }
                Due.equal("sheet " + sheet + ", row " + row, got.toString(), due[sheet][row]);
            }
        }
    }

    // ---- the arguments

    /** That each number from low to high is taken, and those beside them and far away are refused. */
    private static void range(int promise, String quote, int low, int high, String exception,
            BiFunction<TaskSheets, Integer, ?> call) {
        Due.sentence(promise, quote, () -> {
            for (int number = low - 1; number <= high + 1; number++) {
                int argument = number;
                String got = Due.answer(() -> call.apply(Plans.small(), argument));
                if (number < low || number > high) {
                    Due.equal(number + " is refused", got, exception);
                } else {
                    Due.isTrue(number + " is taken, not " + got, !got.startsWith("throws."));
                }
            }
            for (int far : new int[] {Integer.MIN_VALUE, Integer.MAX_VALUE}) {
                answers(far + " is refused", () -> call.apply(Plans.small(), far), exception);
            }
        });
    }

    private static void numbersOfThings() {
        range(5, "`task`: number of a task", 0, 2, INDEX, (x, task) -> x.move(task, 1, 1));
        range(6, "`task`: number of a task", 0, 2, INDEX, (x, task) -> x.removeTask(task));
        // The small plan has 0 to 1 and 2 to 0, so that 0 to 2, 1 to 0 and 2 to 1 can be added.
        range(7, "`from`: number of a task", 0, 2, INDEX, (x, from) -> x.addArrow(from, Math.floorMod(from + 2, 3)));
        range(7, "`to`: number of another task", 0, 2, INDEX, (x, to) -> x.addArrow(Math.floorMod(to + 1, 3), to));
        range(8, "`arrow`: number of an arrow", 0, 1, INDEX, (x, arrow) -> x.removeArrow(arrow));
        range(9, "`task`: number of a task", 0, 2, INDEX, (x, task) -> x.task(task, 0));
        range(11, "`band`: number of a band", 0, 0, INDEX, (x, band) -> x.row(band, 0));
        range(13, "`sheet`: number of a sheet", 0, 2, INDEX, (x, sheet) -> x.sheet(sheet, 0));
        range(14, "`band`: number of a band", 0, 0, INDEX, (x, band) -> x.sheetAt(band, 0));
        range(14, "Throws `IndexOutOfBoundsException` if there is no such band", 0, 0, INDEX, (x, band) -> x.sheetAt(band, 9));
        range(15, "`task`: number of a task", 0, 2, INDEX, (x, task) -> x.part(task, 0, 0));
        range(15, "`part`: number of a part, from 0", 0, 1, INDEX, (x, part) -> x.part(0, part, 0));
        range(16, "`arrow`: number of an arrow", 0, 1, INDEX, (x, arrow) -> x.arrow(arrow, 0));
        range(18, "`sheet`: number of a sheet", 0, 2, INDEX, (x, sheet) -> x.taskAt(sheet, 0, 0));
        range(22, "`task`: number of a task", 0, 2, INDEX, (x, task) -> x.delay(task));
    }

    private static void ranges() {
        String what = "Throws `IllegalArgumentException` if what is out of range";
        range(2, "`what`: 0 to 3", 0, 3, ARGUMENT, (x, w) -> x.set(w, w == 0 || w == 1 ? 10 : 1));
        range(4, "`group`: 0 to 5", 0, 5, ARGUMENT, (x, group) -> x.addTask(group, 0, 1));
        range(4, "`first`: 0 to 199", 0, 199, ARGUMENT, (x, first) -> x.addTask(0, first, 1));
        range(4, "`length`: 1 to 60", 1, 60, ARGUMENT, (x, length) -> x.addTask(0, 0, length));
        range(5, "`first`: 0 to 199", 0, 199, ARGUMENT, (x, first) -> x.move(0, first, 1));
        range(5, "`length`: 1 to 60", 1, 60, ARGUMENT, (x, length) -> x.move(0, 0, length));
        range(9, what, 0, 6, ARGUMENT, (x, w) -> x.task(0, w));
        range(11, "`row`: 0 to (rows of a sheet) - 1", 0, 4, INDEX, (x, row) -> x.row(0, row));
        range(13, what, 0, 4, ARGUMENT, (x, w) -> x.sheet(0, w));
        range(15, what, 0, 4, ARGUMENT, (x, w) -> x.part(0, 0, w));
        range(16, what, 0, 5, ARGUMENT, (x, w) -> x.arrow(0, w));
        range(18, "`row`: 0 to (rows of a sheet) - 1", 0, 4, INDEX, (x, row) -> x.taskAt(0, row, 0));
        range(18, "`place`: 0 to (days of a sheet) - 1", 0, 9, INDEX, (x, place) -> x.taskAt(0, 0, place));
        range(20, "`rows`: 3 to 20", 3, 20, ARGUMENT, (x, rows) -> x.sheetsWith(rows, 5));
        range(20, "`days`: 5 to 60", 5, 60, ARGUMENT, (x, days) -> x.sheetsWith(3, days));
        Due.sentence(14, "`strip`: 0 or more", () -> {
            for (int strip : new int[] {0, 2, 3, 51, 52, 53, 1000, Integer.MAX_VALUE / 52, Integer.MAX_VALUE}) {
                Due.is("strip " + strip, Plans.small().sheetAt(0, strip), strip < 3 ? strip : TaskSheets.NONE);
            }
            for (int strip : new int[] {-1, Integer.MIN_VALUE}) {
                answers("strip " + strip, () -> Plans.small().sheetAt(0, strip), ARGUMENT);
            }
        });
    }

    // ---- which calls are undoable

    /** Just those calls save the state whose description says "undoable". */
    private static void saves(int promise, Function<TaskSheets, ?> call) {
        boolean says = Document.says(promise, "Undoable");
        Due.Test test = () -> {
            TaskSheets x = Plans.small();
            x.undo();
            Due.is("two are left", x.undo(), 2);
            String got = Due.answer(() -> call.apply(x));
            Due.isTrue("the call succeeds, not " + got, !got.startsWith("throws."));
            Due.is("saved states behind an undo", x.undo(), says ? 2 : 1);
        };
        if (says) {
            Due.sentence(promise, "Undoable", test);
        } else {
            Due.test("promise " + promise + " does not say undoable", test);
        }
    }

    private static void undoable() {
        int undoable = 0;
        for (int promise = 1; promise <= 28; promise++) {
            undoable += Document.says(promise, "Undoable") ? 1 : 0;
        }
        int count = undoable;
        Due.test("undoable calls", () -> Due.is("those that change the plan, but undo", count, 7));
        saves(2, x -> x.set(0, 9));
        saves(3, x -> x.value(0));
        saves(4, x -> x.addTask(1, 1, 1));
        saves(5, x -> x.move(1, 1, 1));
        saves(6, x -> x.removeTask(1));
        saves(7, x -> x.addArrow(1, 2));
        saves(8, x -> {
            x.undo();
            x.addArrow(1, 2);
            return x.removeArrow(0);
        });
        saves(9, x -> x.task(0, 0));
        saves(10, TaskSheets::bands);
        saves(11, x -> x.row(0, 0));
        saves(12, TaskSheets::sheets);
        saves(13, x -> x.sheet(0, 0));
        saves(14, x -> x.sheetAt(0, 0));
        saves(15, x -> x.part(0, 0, 0));
        saves(16, x -> {
            x.undo();
            x.addArrow(2, 0);
            return x.arrow(0, 0);
        });
        saves(17, x -> {
            x.undo();
            x.addArrow(2, 0);
            return x.arrowOf(1);
        });
        saves(18, x -> x.taskAt(0, 1, 3));
        saves(19, TaskSheets::covered);
        saves(20, x -> x.sheetsWith(3, 5));
        saves(21, TaskSheets::fewestExits);
        saves(22, x -> x.delay(0));
        saves(23, TaskSheets::longestChain);
        saves(24, x -> x.append('t'));
        saves(25, TaskSheets::clearText);
        saves(26, TaskSheets::parse);
        saves(28, TaskSheets::digest);
    }
}
