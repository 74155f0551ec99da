/** Promises 1 to 9: the settings, the tasks and the arrows. */
final class PlanPromises {
    private PlanPromises() {
    }

    static void run() {
        Due.test("promise 1: a new object", PlanPromises::newObject);
        Due.test("promise 2: set", PlanPromises::set);
        Due.test("promise 2: set, wrong inputs", PlanPromises::setWrong);
        Due.test("promise 3: value", PlanPromises::value);
        Due.test("promise 4: addTask", PlanPromises::addTask);
        Due.test("promise 4: addTask, wrong inputs", PlanPromises::addTaskWrong);
        Due.test("promise 5: move", PlanPromises::move);
        Due.test("promise 5: move, wrong inputs", PlanPromises::moveWrong);
        Due.test("promise 6: removeTask", PlanPromises::removeTask);
        Due.test("promises 6 and 8: the first one of a full plan goes", PlanPromises::removeOfFull);
        Due.test("promise 7: addArrow", PlanPromises::addArrow);
        Due.test("promise 7: addArrow, wrong inputs", PlanPromises::addArrowWrong);
        Due.test("promise 8: removeArrow", PlanPromises::removeArrow);
        Due.test("promise 9: task", PlanPromises::task);
    }

    private static void newObject() {
        TaskSheets x = new TaskSheets();
        Due.is("NONE", TaskSheets.NONE, -1);
        Due.is("rows", x.value(0), 8);
        Due.is("days", x.value(1), 20);
        Due.is("keep", x.value(2), 1);
        Due.is("order", x.value(3), 0);
        Due.is("tasks", x.value(4), 0);
        Due.is("arrows", x.value(5), 0);
        Due.is("bands", x.bands(), 0);
        Due.is("sheets", x.sheets(), 0);
        Due.is("text", x.clearText(), 0);
        Due.state("undo", x::undo);
    }

    private static void set() {
        TaskSheets x = new TaskSheets();
        Due.is("set(0, 3)", x.set(0, 3), 8);
        Due.is("set(0, 20)", x.set(0, 20), 3);
        Due.is("set(1, 5)", x.set(1, 5), 20);
        Due.is("set(1, 60)", x.set(1, 60), 5);
        Due.is("set(2, 0)", x.set(2, 0), 1);
        Due.is("set(2, 1)", x.set(2, 1), 0);
        Due.is("set(3, 1)", x.set(3, 1), 0);
        Due.is("set(3, 0)", x.set(3, 0), 1);
        Due.is("rows", x.value(0), 20);
        Due.is("days", x.value(1), 60);
    }

    private static void setWrong() {
        TaskSheets x = new TaskSheets();
        int[][] wrong = {{-1, 0}, {4, 0}, {4, 8}, {0, 2}, {0, 21}, {1, 4}, {1, 61}, {2, -1}, {2, 2}, {3, -1}, {3, 2},
            {Integer.MIN_VALUE, 5}, {Integer.MAX_VALUE, 5}, {0, Integer.MIN_VALUE}, {1, Integer.MAX_VALUE}};
        for (int[] row : wrong) {
            Due.argument("set(" + row[0] + ", " + row[1] + ")", () -> x.set(row[0], row[1]));
        }
        Due.is("rows", x.value(0), 8);
        Due.state("a call that throws saves nothing", x::undo);
    }

    private static void value() {
        TaskSheets x = Plans.tasks(0, 0, 1, 0, 1, 1, 0, 2, 1);
        x.addArrow(0, 1);
        x.addArrow(1, 2);
        Due.is("tasks", x.value(4), 3);
        Due.is("arrows", x.value(5), 2);
        Due.argument("value(-1)", () -> x.value(-1));
        Due.argument("value(6)", () -> x.value(6));
        Due.argument("value(greatest)", () -> x.value(Integer.MAX_VALUE));
    }

    private static void addTask() {
        TaskSheets x = new TaskSheets();
        Due.is("first", x.addTask(5, 199, 60), 0);
        Due.is("second", x.addTask(0, 0, 1), 1);
        Due.is("the same once more", x.addTask(0, 0, 1), 2);
        Due.is("group", x.task(0, 0), 5);
        Due.is("first day", x.task(0, 1), 199);
        Due.is("length", x.task(0, 2), 60);
        Due.is("tasks", x.value(4), 3);
        for (int n = 3; n < 24; n++) {
            Due.is("task " + n, x.addTask(n % 6, n, n), n);
        }
        Due.state("a 25th task", () -> x.addTask(0, 0, 1));
        Due.argument("a 25th task out of range", () -> x.addTask(0, 0, 0));
        Due.is("tasks", x.value(4), 24);
    }

    private static void addTaskWrong() {
        TaskSheets x = new TaskSheets();
        int[][] wrong = {{-1, 0, 1}, {6, 0, 1}, {0, -1, 1}, {0, 200, 1}, {0, 0, 0}, {0, 0, 61}, {0, 0, -1},
            {Integer.MAX_VALUE, 0, 1}, {0, Integer.MIN_VALUE, 1}, {0, 0, Integer.MAX_VALUE}};
        for (int[] row : wrong) {
            Due.argument("addTask(" + row[0] + ", " + row[1] + ", " + row[2] + ")",
                () -> x.addTask(row[0], row[1], row[2]));
        }
        Due.is("tasks", x.value(4), 0);
        Due.state("a call that throws saves nothing", x::undo);
    }

    private static void move() {
        TaskSheets x = Plans.tasks(0, 10, 5, 1, 20, 6);
        Due.is("move(1, 199, 60)", x.move(1, 199, 60), 20);
        Due.is("first day", x.task(1, 1), 199);
        Due.is("length", x.task(1, 2), 60);
        Due.is("group stays", x.task(1, 0), 1);
        Due.is("the other one", x.task(0, 1), 10);
        Due.is("move(1, 0, 1)", x.move(1, 0, 1), 199);
        Due.is("last day", x.task(1, 3), 0);
    }

    private static void moveWrong() {
        TaskSheets x = Plans.tasks(0, 10, 5);
        Due.index("task 1", () -> x.move(1, 0, 1));
        Due.index("task -1", () -> x.move(-1, 0, 1));
        Due.index("the task comes before the day", () -> x.move(1, 200, 0));
        Due.argument("first 200", () -> x.move(0, 200, 1));
        Due.argument("first -1", () -> x.move(0, -1, 1));
        Due.argument("length 0", () -> x.move(0, 0, 0));
        Due.argument("length 61", () -> x.move(0, 0, 61));
        Due.is("first day", x.task(0, 1), 10);
        Due.is("only addTask is saved", x.undo(), 0);
    }

    private static void removeTask() {
        TaskSheets x = Plans.tasks(0, 0, 1, 1, 10, 2, 2, 20, 3, 3, 30, 4);
        x.addArrow(0, 1);
        x.addArrow(2, 3);
        x.addArrow(3, 1);
        x.addArrow(0, 3);
        x.addArrow(1, 2);
        Due.is("arrows that went", x.removeTask(1), 3);
        Due.is("tasks", x.value(4), 3);
        Due.is("arrows", x.value(5), 2);
        Due.is("task 0", x.task(0, 0), 0);
        Due.is("task 1 was 2", x.task(1, 0), 2);
        Due.is("its first day", x.task(1, 1), 20);
        Due.is("its length", x.task(1, 2), 3);
        Due.is("task 2 was 3", x.task(2, 0), 3);
        Due.equal("arrow 0 was 2 to 3", x.arrow(0, 0) + " " + x.arrow(0, 1), "1 2");
        Due.equal("arrow 1 was 0 to 3", x.arrow(1, 0) + " " + x.arrow(1, 1), "0 2");
        Due.index("task 3 is gone", () -> x.removeTask(3));
        Due.index("task -1", () -> x.removeTask(-1));
        Due.is("the last one", x.removeTask(2), 2);
        Due.is("no arrows", x.value(5), 0);
        x.addArrow(0, 1);
        x.addTask(0, 0, 1);
        x.addArrow(1, 2);
        Due.is("its arrow", x.removeTask(2), 1);
        Due.equal("arrow 0 stays", x.arrow(0, 0) + " " + x.arrow(0, 1), "0 1");
        Due.is("its number", x.removeArrow(0), 0);
        Due.is("without arrows", x.removeTask(0), 0);
        Due.is("the only one", x.removeTask(0), 0);
        Due.index("none is left", () -> x.removeTask(0));
        Due.is("no bands", x.bands(), 0);
    }

    private static void removeOfFull() {
        TaskSheets x = new TaskSheets();
        for (int n = 0; n < 24; n++) {
            x.addTask(n % 6, n, n + 1);
        }
        for (int n = 0; n < 30; n++) {
            x.addArrow(n % 23 + 1, n < 23 ? 0 : (n + 2) % 23 + 1);
        }
        Due.equal("arrow 29", x.arrow(29, 0) + " " + x.arrow(29, 1), "7 9");
        Due.is("arrows left", x.removeArrow(0), 29);
        Due.equal("arrow 28 was 29", x.arrow(28, 0) + " " + x.arrow(28, 1), "7 9");
        x.removeTask(0);
        Due.equal("task 22 was 23", x.task(22, 0) + " " + x.task(22, 1) + " " + x.task(22, 2), "5 23 24");
        Due.is("arrows between the others", x.value(5), 7);
        Due.equal("arrow 6", x.arrow(6, 0) + " " + x.arrow(6, 1), "6 8");
    }

    private static void addArrow() {
        TaskSheets x = Plans.tasks(0, 0, 1, 0, 1, 1, 0, 2, 1);
        Due.is("0 to 1", x.addArrow(0, 1), 0);
        Due.is("1 to 0 is another one", x.addArrow(1, 0), 1);
        Due.is("2 to 0", x.addArrow(2, 0), 2);
        Due.equal("arrow 2", x.arrow(2, 0) + " " + x.arrow(2, 1), "2 0");
        Due.state("0 to 1 once more", () -> x.addArrow(0, 1));
        x.removeArrow(0);
        Due.is("0 to 1 after it went", x.addArrow(0, 1), 2);
        x.removeArrow(2);
        Due.is("0 to 1 after it went as the last one", x.addArrow(0, 1), 2);
    }

    private static void addArrowWrong() {
        TaskSheets x = new TaskSheets();
        for (int n = 0; n < 7; n++) {
            x.addTask(0, n, 1);
        }
        Due.index("from 7", () -> x.addArrow(7, 0));
        Due.index("to 7", () -> x.addArrow(0, 7));
        Due.index("from -1", () -> x.addArrow(-1, 0));
        Due.index("to -1", () -> x.addArrow(0, -1));
        Due.index("no such task comes before the same", () -> x.addArrow(7, 7));
        Due.argument("the same", () -> x.addArrow(6, 6));
        for (int n = 0; n < 30; n++) {
            Due.is("arrow " + n, x.addArrow(n / 6, n % 6 < n / 6 ? n % 6 : n % 6 + 1), n);
        }
        Due.state("a 31st arrow", () -> x.addArrow(6, 0));
        Due.argument("the same with 30 arrows", () -> x.addArrow(6, 6));
        Due.index("no such task with 30 arrows", () -> x.addArrow(0, 7));
        Due.is("arrows", x.value(5), 30);
    }

    private static void removeArrow() {
        TaskSheets x = Plans.tasks(0, 0, 1, 0, 1, 1, 0, 2, 1);
        x.addArrow(0, 1);
        x.addArrow(1, 2);
        x.addArrow(0, 2);
        Due.is("left", x.removeArrow(1), 2);
        Due.equal("arrow 0", x.arrow(0, 0) + " " + x.arrow(0, 1), "0 1");
        Due.equal("arrow 1 was 2", x.arrow(1, 0) + " " + x.arrow(1, 1), "0 2");
        Due.index("arrow 2 is gone", () -> x.removeArrow(2));
        Due.index("arrow -1", () -> x.removeArrow(-1));
        Due.is("left", x.removeArrow(1), 1);
        Due.is("left", x.removeArrow(0), 0);
        Due.index("none is left", () -> x.removeArrow(0));
        Due.is("tasks stay", x.value(4), 3);
    }

    private static void task() {
        TaskSheets x = Plans.tasks(3, 19, 22, 1, 7, 1);
        int[] first = {3, 19, 22, 40, 0, 3, 3};
        int[] second = {1, 7, 1, 7, 0, 1, 1};
        for (int what = 0; what < 7; what++) {
            Due.is("task(0, " + what + ")", x.task(0, what), first[what]);
            Due.is("task(1, " + what + ")", x.task(1, what), second[what]);
        }
        x.set(1, 5);
        Due.is("parts on 5 days: strips 3 to 8", x.task(0, 6), 6);
        Due.argument("what -1", () -> x.task(0, -1));
        Due.argument("what 7", () -> x.task(0, 7));
        Due.index("task 2", () -> x.task(2, 0));
        Due.index("the task comes before what", () -> x.task(-1, 7));
    }
}
