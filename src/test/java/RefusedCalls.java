import java.util.function.Function;
import java.util.function.Supplier;

/**
 * The calls that are refused, promise by promise: what each throws, which of two refusals comes first, and that
 * nothing has changed by it (the object answers as one does on which the call was never made).
 */
final class RefusedCalls {
    private static final int LEAST = Integer.MIN_VALUE;
    private static final int MOST = Integer.MAX_VALUE;
    private static final String ARGUMENT = "IllegalArgumentException";
    private static final String INDEX = "IndexOutOfBoundsException";
    private static final String STATE = "IllegalStateException";

    private RefusedCalls() {
    }

    static void run() {
        Due.sentence(2, "Throws `IllegalArgumentException` if what or value is out of range", RefusedCalls::set);
        Due.sentence(3, "Throws `IllegalArgumentException` if what is out of range", RefusedCalls::value);
        Due.sentence(4, "Throws `IllegalArgumentException` if an argument is out of range", RefusedCalls::addTask);
        Due.sentence(4, "Throws `IllegalStateException` if there are 24 tasks", RefusedCalls::addTaskToFull);
        Due.sentence(5, "Throws `IndexOutOfBoundsException` if there is no such task", RefusedCalls::moveIndex);
        Due.sentence(5, "Throws `IllegalArgumentException` if first or length is out of range", RefusedCalls::moveArgument);
        Due.sentence(6, "Throws `IndexOutOfBoundsException` if there is no such task", RefusedCalls::removeTask);
        Due.sentence(7, "Throws `IndexOutOfBoundsException` if there is no such task", RefusedCalls::addArrowIndex);
        Due.sentence(7, "Throws `IllegalArgumentException` if both are the same", RefusedCalls::addArrowArgument);
        Due.sentence(7, "Throws `IllegalStateException` if there is such an arrow already, or there are 30 arrows",
            RefusedCalls::addArrowState);
        Due.sentence(8, "Throws `IndexOutOfBoundsException` if there is no such arrow", RefusedCalls::removeArrow);
        Due.sentence(9, "Throws `IndexOutOfBoundsException` if there is no such task", RefusedCalls::task);
        Due.sentence(11, "Throws `IndexOutOfBoundsException` if there is no such band or row", RefusedCalls::row);
        Due.sentence(13, "Throws `IndexOutOfBoundsException` if there is no such sheet", RefusedCalls::sheet);
        Due.sentence(14, "Throws `IllegalArgumentException` if strip is negative", RefusedCalls::sheetAt);
        Due.sentence(15, "Throws `IndexOutOfBoundsException` if there is no such task or part", RefusedCalls::part);
        Due.sentence(16, "Throws `IndexOutOfBoundsException` if there is no such arrow", RefusedCalls::arrow);
        Due.sentence(17, "Throws `IndexOutOfBoundsException` if there is no such exit", RefusedCalls::arrowOf);
        Due.sentence(18, "Throws `IndexOutOfBoundsException` if there is no such sheet, row or place", RefusedCalls::taskAt);
        Due.sentence(20, "Throws `IllegalArgumentException` if rows or days is out of range", RefusedCalls::sheetsWith);
        Due.sentence(22, "Throws `IndexOutOfBoundsException` if there is no such task", RefusedCalls::delay);
        Due.sentence(24, "Throws `IllegalArgumentException` if value is out of range", RefusedCalls::append);
        Due.sentence(24, "Throws `IllegalStateException` if the text has 150 bytes", RefusedCalls::appendToFull);
        Due.sentence(27, "Throws `IllegalStateException` if there is no saved state", RefusedCalls::undo);
        Due.sentence(26, "-10 minus the syntax error position if there is a syntax error (then nothing changes)",
            RefusedCalls::parse);
    }

    private static void refused(String what, String exception, Supplier<TaskSheets> made, Function<TaskSheets, ?> call) {
        Due.refused(what, exception, made, call);
    }

    private static void set() {
        int[][] wrong = {{-1, 1}, {4, 1}, {4, 8}, {5, 5}, {LEAST, 8}, {MOST, 8}, {0, 2}, {0, 21}, {0, LEAST}, {0, MOST},
            {1, 4}, {1, 61}, {1, -20}, {1, MOST}, {2, -1}, {2, 2}, {2, LEAST}, {3, -1}, {3, 2}, {3, MOST}, {-1, -1}};
        for (int[] row : wrong) {
            String what = "set(" + row[0] + ", " + row[1] + ")";
            refused(what, ARGUMENT, Plans::small, x -> x.set(row[0], row[1]));
            refused(what, ARGUMENT, TaskSheets::new, x -> x.set(row[0], row[1]));
        }
    }

    private static void value() {
        for (int what : new int[] {-1, 6, 7, LEAST, MOST}) {
            refused("value(" + what + ")", ARGUMENT, Plans::small, x -> x.value(what));
        }
    }

    private static final int[][] WRONG_TASKS = {{-1, 0, 1}, {6, 0, 1}, {LEAST, 0, 1}, {MOST, 0, 1}, {0, -1, 1},
        {5, 200, 1}, {0, LEAST, 1}, {5, MOST, 1}, {0, 0, 0}, {0, 0, -1}, {5, 199, 61}, {0, 0, LEAST}, {0, 0, MOST},
        {-1, 200, 0}};

    private static void addTask() {
        for (int[] t : WRONG_TASKS) {
            String what = "addTask(" + t[0] + ", " + t[1] + ", " + t[2] + ")";
            refused(what, ARGUMENT, Plans::small, x -> x.addTask(t[0], t[1], t[2]));
            refused(what, ARGUMENT, TaskSheets::new, x -> x.addTask(t[0], t[1], t[2]));
            refused(what + ", which comes before the 24 tasks", ARGUMENT, Plans::full, x -> x.addTask(t[0], t[1], t[2]));
        }
    }

    private static void addTaskToFull() {
        refused("addTask(0, 0, 1)", STATE, Plans::full, x -> x.addTask(0, 0, 1));
        refused("addTask(5, 199, 60)", STATE, Plans::full, x -> x.addTask(5, 199, 60));
        TaskSheets x = Plans.full();
        x.removeTask(23);
        Due.is("with 23 tasks it is not refused", x.addTask(0, 0, 1), 23);
        Due.state("nor is it allowed from then on", () -> x.addTask(0, 0, 1));
    }

    private static void moveIndex() {
        for (int task : new int[] {-1, 3, LEAST, MOST}) {
            refused("move(" + task + ", 0, 1)", INDEX, Plans::small, x -> x.move(task, 0, 1));
            refused("move(" + task + ", 200, 61), the task comes first", INDEX, Plans::small, x -> x.move(task, 200, 61));
        }
        refused("move of a 25th task", INDEX, Plans::full, x -> x.move(24, 0, 1));
        refused("move without tasks", INDEX, TaskSheets::new, x -> x.move(0, 0, 1));
    }

    private static void moveArgument() {
        int[][] wrong = {{-1, 1}, {200, 1}, {LEAST, 1}, {MOST, 1}, {0, 0}, {199, 61}, {0, -1}, {0, LEAST}, {0, MOST}, {200, 0}};
        for (int[] row : wrong) {
            String bar = row[0] + ", " + row[1] + ")";
            refused("move(0, " + bar, ARGUMENT, Plans::small, x -> x.move(0, row[0], row[1]));
            refused("move(2, " + bar, ARGUMENT, Plans::small, x -> x.move(2, row[0], row[1]));
        }
    }

    private static void removeTask() {
        for (int task : new int[] {-1, 3, LEAST, MOST}) {
            refused("removeTask(" + task + ")", INDEX, Plans::small, x -> x.removeTask(task));
        }
        refused("removeTask(24)", INDEX, Plans::full, x -> x.removeTask(24));
        refused("removeTask(0) without tasks", INDEX, TaskSheets::new, x -> x.removeTask(0));
    }

    private static void addArrowIndex() {
        for (int task : new int[] {-1, 3, LEAST, MOST}) {
            refused("addArrow(" + task + ", 0)", INDEX, Plans::small, x -> x.addArrow(task, 0));
            refused("addArrow(0, " + task + ")", INDEX, Plans::small, x -> x.addArrow(0, task));
            refused("both are " + task + ", there is no such task comes first", INDEX, Plans::small, x -> x.addArrow(task, task));
        }
        refused("there is no such task comes before the 30 arrows", INDEX, Plans::full, x -> x.addArrow(24, 0));
        refused("there is no such task comes before the 30 arrows", INDEX, Plans::full, x -> x.addArrow(0, 24));
        refused("addArrow(0, 0) without tasks", INDEX, TaskSheets::new, x -> x.addArrow(0, 0));
        refused("addArrow(0, 1) with one task", INDEX, () -> Plans.tasks(0, 0, 1), x -> x.addArrow(0, 1));
    }

    private static void addArrowArgument() {
        refused("addArrow(0, 0)", ARGUMENT, Plans::small, x -> x.addArrow(0, 0));
        refused("addArrow(2, 2)", ARGUMENT, Plans::small, x -> x.addArrow(2, 2));
        refused("it comes before the 30 arrows", ARGUMENT, Plans::full, x -> x.addArrow(23, 23));
    }

    private static void addArrowState() {
        refused("the first one once more", STATE, Plans::small, x -> x.addArrow(0, 1));
        refused("the last one once more", STATE, Plans::small, x -> x.addArrow(2, 0));
        refused("a 31st arrow", STATE, Plans::full, x -> x.addArrow(23, 10));
        refused("one of the 30 once more", STATE, Plans::full, x -> x.addArrow(0, 1));
        TaskSheets x = Plans.full();
        x.removeArrow(29);
        Due.state("with 29 arrows one of them once more", () -> x.addArrow(0, 1));
        Due.is("with 29 arrows another one is not refused", x.addArrow(23, 10), 29);
        Due.is("nor is the other way round of one", Plans.small().addArrow(1, 0), 2);
    }

    private static void removeArrow() {
        for (int arrow : new int[] {-1, 2, LEAST, MOST}) {
            refused("removeArrow(" + arrow + ")", INDEX, Plans::small, x -> x.removeArrow(arrow));
        }
        refused("removeArrow(30)", INDEX, Plans::full, x -> x.removeArrow(30));
        refused("removeArrow(0) without arrows", INDEX, () -> Plans.tasks(0, 0, 1), x -> x.removeArrow(0));
    }

    private static void task() {
        for (int task : new int[] {-1, 3, LEAST, MOST}) {
            refused("task(" + task + ", 0)", INDEX, Plans::small, x -> x.task(task, 0));
            refused("task(" + task + ", 7), the task comes first", INDEX, Plans::small, x -> x.task(task, 7));
        }
        refused("task(24, 0)", INDEX, Plans::full, x -> x.task(24, 0));
        refused("task(0, 0) without tasks", INDEX, TaskSheets::new, x -> x.task(0, 0));
        for (int what : new int[] {-1, 7, LEAST, MOST}) {
            refused("task(2, " + what + ")", ARGUMENT, Plans::small, x -> x.task(2, what));
        }
    }

    private static void row() {
        Due.is("bands of the small plan", Plans.small().bands(), 1);
        for (int far : new int[] {-1, LEAST, MOST}) {
            refused("row(" + far + ", 0)", INDEX, Plans::small, x -> x.row(far, 0));
            refused("row(0, " + far + ")", INDEX, Plans::small, x -> x.row(0, far));
            refused("row(" + far + ", " + far + ")", INDEX, Plans::small, x -> x.row(far, far));
        }
        refused("row(1, 0)", INDEX, Plans::small, x -> x.row(1, 0));
        refused("row(0, 5)", INDEX, Plans::small, x -> x.row(0, 5));
        refused("row(1, 5)", INDEX, Plans::small, x -> x.row(1, 5));
        refused("row(0, 0) without bands", INDEX, TaskSheets::new, x -> x.row(0, 0));
    }

    private static void sheet() {
        Due.is("sheets of the small plan", Plans.small().sheets(), 3);
        for (int sheet : new int[] {-1, 3, LEAST, MOST}) {
            refused("sheet(" + sheet + ", 0)", INDEX, Plans::small, x -> x.sheet(sheet, 0));
            refused("sheet(" + sheet + ", 5), the sheet comes first", INDEX, Plans::small, x -> x.sheet(sheet, 5));
        }
        refused("sheet(0, 0) without sheets", INDEX, TaskSheets::new, x -> x.sheet(0, 0));
        for (int what : new int[] {-1, 5, LEAST, MOST}) {
            refused("sheet(2, " + what + ")", ARGUMENT, Plans::small, x -> x.sheet(2, what));
        }
    }

    private static void sheetAt() {
        for (int strip : new int[] {-1, -20, LEAST}) {
            refused("sheetAt(0, " + strip + ")", ARGUMENT, Plans::small, x -> x.sheetAt(0, strip));
            refused("sheetAt(1, " + strip + "), the band comes first", INDEX, Plans::small, x -> x.sheetAt(1, strip));
        }
        for (int band : new int[] {-1, 1, LEAST, MOST}) {
            refused("sheetAt(" + band + ", 0)", INDEX, Plans::small, x -> x.sheetAt(band, 0));
        }
        refused("sheetAt(0, 0) without bands", INDEX, TaskSheets::new, x -> x.sheetAt(0, 0));
        refused("sheetAt(0, -1) without bands", INDEX, TaskSheets::new, x -> x.sheetAt(0, -1));
    }

    private static void part() {
        Due.is("parts of task 1 of the small plan", Plans.small().task(1, 6), 1);
        for (int far : new int[] {-1, LEAST, MOST}) {
            refused("part(" + far + ", 0, 0)", INDEX, Plans::small, x -> x.part(far, 0, 0));
            refused("part(1, " + far + ", 0)", INDEX, Plans::small, x -> x.part(1, far, 0));
            refused("part(1, 0, " + far + ")", ARGUMENT, Plans::small, x -> x.part(1, 0, far));
            refused("all three are " + far + ", the index comes first", INDEX, Plans::small, x -> x.part(far, far, far));
        }
        refused("part(3, 0, 0)", INDEX, Plans::small, x -> x.part(3, 0, 0));
        refused("part(1, 1, 0)", INDEX, Plans::small, x -> x.part(1, 1, 0));
        refused("part(0, 2, 0)", INDEX, Plans::small, x -> x.part(0, 2, 0));
        refused("part(1, 0, 5)", ARGUMENT, Plans::small, x -> x.part(1, 0, 5));
        refused("part(1, 1, 5), the part comes first", INDEX, Plans::small, x -> x.part(1, 1, 5));
        refused("part(3, 0, -1), the task comes first", INDEX, Plans::small, x -> x.part(3, 0, -1));
        refused("part(0, 0, 0) without tasks", INDEX, TaskSheets::new, x -> x.part(0, 0, 0));
    }

    private static void arrow() {
        for (int arrow : new int[] {-1, 2, LEAST, MOST}) {
            refused("arrow(" + arrow + ", 0)", INDEX, Plans::small, x -> x.arrow(arrow, 0));
            refused("arrow(" + arrow + ", 6), the arrow comes first", INDEX, Plans::small, x -> x.arrow(arrow, 6));
        }
        refused("arrow(30, 0)", INDEX, Plans::full, x -> x.arrow(30, 0));
        refused("arrow(0, 0) without arrows", INDEX, TaskSheets::new, x -> x.arrow(0, 0));
        for (int what : new int[] {-1, 6, LEAST, MOST}) {
            refused("arrow(1, " + what + ")", ARGUMENT, Plans::small, x -> x.arrow(1, what));
        }
    }

    private static void arrowOf() {
        Due.is("an exit of the small plan", Plans.small().arrowOf(1), 1);
        for (int exit : new int[] {0, -1, 2, LEAST, MOST}) {
            refused("arrowOf(" + exit + ")", INDEX, Plans::small, x -> x.arrowOf(exit));
        }
        refused("arrowOf(1) without arrows", INDEX, TaskSheets::new, x -> x.arrowOf(1));
        refused("arrowOf(0) without arrows", INDEX, TaskSheets::new, x -> x.arrowOf(0));
    }

    private static void taskAt() {
        int[][] wrong = {{-1, 0, 0}, {3, 0, 0}, {0, -1, 0}, {0, 5, 0}, {0, 0, -1}, {0, 0, 10}, {3, 5, 10}, {LEAST, 0, 0},
            {MOST, 0, 0}, {0, LEAST, 0}, {0, MOST, 0}, {0, 0, LEAST}, {0, 0, MOST}, {2, 1, MOST}, {2, 4, 10}};
        for (int[] row : wrong) {
            refused("taskAt(" + row[0] + ", " + row[1] + ", " + row[2] + ")", INDEX, Plans::small,
                x -> x.taskAt(row[0], row[1], row[2]));
        }
        refused("taskAt(0, 0, 0) without sheets", INDEX, TaskSheets::new, x -> x.taskAt(0, 0, 0));
    }

    private static void sheetsWith() {
        int[][] wrong = {{2, 20}, {21, 20}, {8, 4}, {8, 61}, {LEAST, 20}, {MOST, 20}, {8, LEAST}, {8, MOST}, {2, 61}, {0, 0}};
        for (int[] row : wrong) {
            String what = "sheetsWith(" + row[0] + ", " + row[1] + ")";
            refused(what, ARGUMENT, Plans::small, x -> x.sheetsWith(row[0], row[1]));
            refused(what, ARGUMENT, TaskSheets::new, x -> x.sheetsWith(row[0], row[1]));
        }
    }

    private static void delay() {
        for (int task : new int[] {-1, 3, LEAST, MOST}) {
            refused("delay(" + task + ")", INDEX, Plans::small, x -> x.delay(task));
        }
        refused("delay(24)", INDEX, Plans::full, x -> x.delay(24));
        refused("delay(0) without tasks", INDEX, TaskSheets::new, x -> x.delay(0));
    }

    private static void append() {
        for (int value : new int[] {-1, 128, 256, 't' + 256, LEAST, MOST}) {
            refused("append(" + value + ")", ARGUMENT, Plans::small, x -> x.append(value));
            refused("append(" + value + ") to no text", ARGUMENT, TaskSheets::new, x -> x.append(value));
            refused("append(" + value + ") to 150 bytes, the value comes first", ARGUMENT, Plans::full, x -> x.append(value));
        }
    }

    private static void appendToFull() {
        for (int value : new int[] {0, ';', 127}) {
            refused("append(" + value + ")", STATE, Plans::full, x -> x.append(value));
        }
        TaskSheets x = Plans.full();
        Due.is("the text with all its bytes", x.parse(), 21);
        x.clearText();
        Due.is("an emptied text takes bytes again", x.append('t'), 1);
    }

    private static void undo() {
        refused("undo() of a new object", STATE, TaskSheets::new, TaskSheets::undo);
        refused("undo() of a text alone", STATE, () -> Plans.withText("t0,0,1;"), TaskSheets::undo);
        refused("undo() once too often", STATE, RefusedCalls::undone, TaskSheets::undo);
        Due.is("the plan stays", undone().value(4), 3);
    }

    /** The small plan, its four saved states undone. */
    private static TaskSheets undone() {
        TaskSheets x = Plans.small();
        for (int n = 0; n < 4; n++) {
            x.undo();
        }
        return x;
    }

    // Not by an exception, but refused all the same.
    private static void parse() {
        Due.is("the text of the small plan is right", Plans.small().parse(), 2);
        String[] wrong = {"x", ";", "t", "t6,0,1;", "t0,0,1", "t0,200,1;", "t0,0,61;", "t0,0,1;a0,0;", "t0,0,1;t0,0,1;a0,2;"};
        for (String text : wrong) {
            Supplier<TaskSheets> made = () -> {
                TaskSheets x = Plans.small();
                x.clearText();
                Plans.write(x, text);
                return x;
            };
            TaskSheets x = made.get();
            Due.isTrue(text + " is refused", x.parse() <= -10);
            Due.isTrue(text + " is refused once more", x.parse() <= -10);
            Due.equal("what stands behind " + text, Plans.whole(x), Plans.whole(made.get()));
        }
    }
}
