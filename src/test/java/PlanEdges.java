/** The edges that the document names for settings, tasks and arrows (description, promises 1 to 9), none refused. */
final class PlanEdges {
    private PlanEdges() {
    }

    static void run() {
        Due.sentence(0, "An object is used for at most 512 calls after it has been made", PlanEdges::lastCall);
        Due.sentence(0, "There are at most 24 tasks, numbered from 0 in the order in which they were added.",
            PlanEdges::mostTasks);
        Due.sentence(0, "A task has a group, 0 to 5, a first day, 0 to 199, and a length, 1 to 60 days",
            PlanEdges::cornersOfTasks);
        Due.sentence(0, "its last day is (first day) + length - 1", PlanEdges::lastDay);
        Due.sentence(0, "There are at most 30 arrows, numbered from 0 in the order in which they were added",
            PlanEdges::mostArrows);
        Due.sentence(0, "0 the rows of a sheet, 3 to 20, initially 8; 1 the days of a sheet, 5 to 60, initially 20; "
            + "2 keep, 0 or 1, initially 1; 3 order, 0 or 1, initially 0.", PlanEdges::initialSettings);
        Due.sentence(1, "Creates a plan without tasks and arrows, with the initial settings.", PlanEdges::empty);
        Due.sentence(2, "`value`: the new value, in its range", PlanEdges::eachValueOfEachSetting);
        Due.sentence(2, "Returns the previous value.", PlanEdges::previousValue);
        Due.sentence(3, "0 to 3 the settings, 4 the number of tasks, 5 the number of arrows", PlanEdges::values);
        Due.sentence(4, "Returns the number of the task.", PlanEdges::numberOfTask);
        Due.sentence(5, "Returns the previous first day.", PlanEdges::previousFirstDay);
        Due.sentence(5, "gives it another first day and length", PlanEdges::cornersOfMoves);
        Due.sentence(6, "Returns the number of arrows that went with it.", PlanEdges::arrowsThatWent);
        Due.sentence(6, "the numbers of tasks and arrows behind those that go decrease", PlanEdges::firstAndLastTaskGo);
        Due.sentence(7, "Returns the number of the arrow.", PlanEdges::numberOfArrow);
        Due.sentence(8, "the numbers of those behind it decrease by 1", PlanEdges::firstAndLastArrowGo);
        Due.sentence(8, "Returns the number of arrows that are left.", PlanEdges::arrowsLeft);
        Due.sentence(9, "0 its group, 1 its first day, 2 its length, 3 its last day, 4 its band, 5 its row in the band, "
            + "6 the number of the parts of its bar", PlanEdges::tellsOfTask);
    }

    private static void lastCall() {
        TaskSheets x = new TaskSheets();
        int previous = 8;
        for (int call = 1; call <= 510; call++) {
            int next = 3 + call % 18;
            Due.is("call " + call, x.set(0, next), previous);
            previous = next;
        }
        Due.is("call 511", x.undo(), 3);
        Due.is("call 512", x.value(0), 3 + 509 % 18);
        TaskSheets y = new TaskSheets();
        y.addTask(0, 0, 1);
        for (int call = 2; call <= 511; call++) {
            Due.is("call " + call, y.move(0, call % 200, 1), call == 2 ? 0 : (call - 1) % 200);
        }
        Due.is("call 512", y.delay(0), 0);
    }

    private static void mostTasks() {
        TaskSheets x = new TaskSheets();
        for (int n = 0; n < 24; n++) {
            Due.is("task " + n, x.addTask(5 - n % 6, 100 - n, 1 + n), n);
        }
        Due.is("tasks", x.value(4), 24);
        for (int n = 0; n < 24; n++) {
            Due.equal("task " + n, x.task(n, 0) + " " + x.task(n, 1) + " " + x.task(n, 2),
                (5 - n % 6) + " " + (100 - n) + " " + (1 + n));
        }
        Due.state("task 24", () -> x.addTask(0, 0, 1));
        x.undo();
        Due.is("task 23 again", x.addTask(0, 0, 1), 23);
    }

    private static void cornersOfTasks() {
        for (int group : new int[] {0, 5}) {
            for (int first : new int[] {0, 199}) {
                for (int length : new int[] {1, 60}) {
                    TaskSheets x = Plans.tasks(3, 100, 10);
                    String what = group + ", " + first + ", " + length;
                    Due.is(what, x.addTask(group, first, length), 1);
                    Due.equal("it stands", x.task(1, 0) + ", " + x.task(1, 1) + ", " + x.task(1, 2), what);
                }
            }
        }
        for (int group = 0; group <= 5; group++) {
            Due.is("group " + group, Plans.tasks(group, 7, 7).task(0, 0), group);
        }
    }

    private static void lastDay() {
        Due.is("the smallest", Plans.tasks(0, 0, 1).task(0, 3), 0);
        Due.is("the longest from day 0", Plans.tasks(0, 0, 60).task(0, 3), 59);
        Due.is("the shortest on day 199", Plans.tasks(0, 199, 1).task(0, 3), 199);
        Due.is("the greatest", Plans.tasks(0, 199, 60).task(0, 3), 258);
    }

    private static void mostArrows() {
        TaskSheets x = Plans.full();
        Due.is("arrows", x.value(5), 30);
        for (int n = 0; n < 30; n++) {
            Due.equal("arrow " + n, x.arrow(n, 0) + " " + x.arrow(n, 1), n % 24 + " " + (n % 24 + 1 + n / 24) % 24);
        }
        Due.state("arrow 30", () -> x.addArrow(23, 10));
        x.undo();
        Due.is("arrow 29 again", x.addArrow(23, 10), 29);
    }

    private static void initialSettings() {
        TaskSheets x = new TaskSheets();
        int[] initial = {8, 20, 1, 0};
        for (int what = 0; what < 4; what++) {
            Due.is("setting " + what, x.value(what), initial[what]);
        }
        TaskSheets y = Plans.tasks(0, 0, 21);
        Due.is("the first 20 days on a sheet", y.part(0, 0, 2), 20);
        Due.is("8 rows", y.row(0, 7), TaskSheets.NONE);
        Due.index("no row 8", () -> y.row(0, 8));
    }

    private static void empty() {
        Due.is("tasks", new TaskSheets().value(4), 0);
        Due.is("arrows", new TaskSheets().value(5), 0);
        Due.is("bands", new TaskSheets().bands(), 0);
        Due.is("sheets", new TaskSheets().sheets(), 0);
        Due.equal("covered", new TaskSheets().covered(), 0.0);
        Due.is("sheetsWith", new TaskSheets().sheetsWith(3, 5), 0);
        Due.is("fewestExits", new TaskSheets().fewestExits(), 5);
        Due.is("longestChain", new TaskSheets().longestChain(), 0);
        Due.is("the text", new TaskSheets().clearText(), 0);
        Due.is("a plan of no text", new TaskSheets().parse(), 0);
        Due.state("nothing is saved", () -> new TaskSheets().undo());
        TaskSheets x = Plans.small();
        Due.is("objects have nothing in common", new TaskSheets().digest(), new TaskSheets().digest());
        Due.is("tasks of the other one", x.value(4), 3);
        Due.is("settings of the other one", x.value(0), 5);
    }

    private static void eachValueOfEachSetting() {
        int[][] ranges = {{3, 20}, {5, 60}, {0, 1}, {0, 1}};
        for (int what = 0; what < 4; what++) {
            TaskSheets x = Plans.tasks(0, 0, 60, 0, 199, 60);
            int[] others = {8, 20, 1, 0};
            for (int value = ranges[what][0]; value <= ranges[what][1]; value++) {
                Due.is("set(" + what + ", " + value + ")", x.set(what, value), others[what]);
                others[what] = value;
                for (int other = 0; other < 4; other++) {
                    Due.is("setting " + other + " behind it", x.value(other), others[other]);
                }
            }
        }
    }

    private static void previousValue() {
        TaskSheets x = new TaskSheets();
        Due.is("the initial one", x.set(1, 5), 20);
        Due.is("the smallest", x.set(1, 60), 5);
        Due.is("the greatest", x.set(1, 60), 60);
        Due.is("the same", x.set(1, 21), 60);
        Due.is("the one before an undo", x.undo() + x.set(1, 20), 3 + 60);
    }

    private static void values() {
        TaskSheets x = Plans.small();
        int[] due = {5, 10, 1, 0, 3, 2};
        for (int what = 0; what < 6; what++) {
            Due.is("value(" + what + ")", x.value(what), due[what]);
        }
        Due.is("24 tasks", Plans.full().value(4), 24);
        Due.is("30 arrows", Plans.full().value(5), 30);
    }

    private static void numberOfTask() {
        TaskSheets x = Plans.tasks(0, 0, 1, 0, 0, 1);
        Due.is("the same once more", x.addTask(0, 0, 1), 2);
        x.removeTask(0);
        Due.is("behind a removed one", x.addTask(0, 0, 1), 2);
        x.removeTask(2);
        x.removeTask(1);
        x.removeTask(0);
        Due.is("behind all removed ones", x.addTask(0, 0, 1), 0);
    }

    private static void previousFirstDay() {
        TaskSheets x = Plans.tasks(0, 0, 1, 3, 199, 60);
        Due.is("0", x.move(0, 199, 60), 0);
        Due.is("199", x.move(0, 199, 59), 199);
        Due.is("the same once more", x.move(0, 199, 59), 199);
        Due.is("the other task's", x.move(1, 0, 1), 199);
        Due.is("behind an undo", x.undo() + x.move(1, 5, 5), 3 + 199);
    }

    private static void cornersOfMoves() {
        for (int first : new int[] {0, 199}) {
            for (int length : new int[] {1, 60}) {
                TaskSheets x = Plans.tasks(3, 100, 10, 2, 50, 5);
                x.move(0, first, length);
                Due.equal("the task", x.task(0, 0) + ", " + x.task(0, 1) + ", " + x.task(0, 2), "3, " + first + ", " + length);
                Due.equal("the other one", x.task(1, 0) + ", " + x.task(1, 1) + ", " + x.task(1, 2), "2, 50, 5");
                Due.is("its number stays, and that of the tasks", x.value(4), 2);
            }
        }
        TaskSheets x = Plans.full();
        Due.is("the last of 24", x.move(23, 3, 4), 184);
        Due.equal("it stands", x.task(23, 1) + " " + x.task(23, 2), "3 4");
    }

    private static void arrowsThatWent() {
        Due.is("none", Plans.tasks(0, 0, 1).removeTask(0), 0);
        TaskSheets x = new TaskSheets();
        for (int n = 0; n < 24; n++) {
            x.addTask(n % 6, n, 1);
        }
        for (int n = 0; n < 30; n++) {
            Due.is("arrow " + n, n < 23 ? x.addArrow(23, n) : x.addArrow(n - 23, 23), n);
        }
        Due.is("all 30, leaving and arriving", x.removeTask(23), 30);
        Due.is("no arrows", x.value(5), 0);
        x.undo();
        Due.is("a task with two of 30", x.removeTask(0), 2);
        Due.is("arrows", x.value(5), 28);
        Due.is("a task with one", x.removeTask(21), 1);
        Due.is("arrows", x.value(5), 27);
    }

    private static void firstAndLastTaskGo() {
        TaskSheets x = Plans.full();
        x.removeTask(23);
        Due.is("tasks", x.value(4), 23);
        Due.equal("task 0 stays", x.task(0, 0) + " " + x.task(0, 1) + " " + x.task(0, 2), "0 0 1");
        Due.equal("task 22 stays", x.task(22, 0) + " " + x.task(22, 1) + " " + x.task(22, 2), "4 176 23");
        Due.index("task 23 is gone", () -> x.task(23, 0));
        Due.is("of the arrows 0 to 29, 22 and 23 went", x.value(5), 28);
        Due.equal("arrow 21 stays", x.arrow(21, 0) + " " + x.arrow(21, 1), "21 22");
        Due.equal("arrow 22 was 24", x.arrow(22, 0) + " " + x.arrow(22, 1), "0 2");
        x.undo();
        x.removeTask(0);
        Due.equal("task 0 was 1", x.task(0, 0) + " " + x.task(0, 1) + " " + x.task(0, 2), "1 8 2");
        Due.equal("task 22 was 23", x.task(22, 0) + " " + x.task(22, 1) + " " + x.task(22, 2), "5 184 24");
        Due.is("of the arrows 0 to 29, 0, 23 and 24 went", x.value(5), 27);
        Due.equal("arrow 0 was 1", x.arrow(0, 0) + " " + x.arrow(0, 1), "0 1");
        Due.equal("arrow 21 was 22", x.arrow(21, 0) + " " + x.arrow(21, 1), "21 22");
        Due.equal("arrow 22 was 25", x.arrow(22, 0) + " " + x.arrow(22, 1), "0 2");
        Due.equal("arrow 26 was 29", x.arrow(26, 0) + " " + x.arrow(26, 1), "4 6");
    }

    private static void numberOfArrow() {
        TaskSheets x = Plans.tasks(0, 0, 1, 0, 1, 1, 0, 2, 1);
        Due.is("the first one", x.addArrow(2, 1), 0);
        Due.is("the other way round", x.addArrow(1, 2), 1);
        x.removeArrow(0);
        Due.is("behind a removed one", x.addArrow(2, 1), 1);
        x.removeTask(1);
        Due.is("behind all removed ones", x.addArrow(0, 1), 0);
    }

    private static void firstAndLastArrowGo() {
        TaskSheets x = Plans.full();
        Due.is("left", x.removeArrow(29), 29);
        Due.equal("arrow 28 stays", x.arrow(28, 0) + " " + x.arrow(28, 1), "4 6");
        Due.index("arrow 29 is gone", () -> x.arrow(29, 0));
        x.undo();
        x.removeArrow(0);
        for (int n = 0; n < 29; n++) {
            int was = n + 1;
            Due.equal("arrow " + n + " was " + was, x.arrow(n, 0) + " " + x.arrow(n, 1),
                was % 24 + " " + (was % 24 + 1 + was / 24) % 24);
        }
        Due.is("the tasks stay", x.value(4), 24);
    }

    private static void arrowsLeft() {
        TaskSheets x = Plans.full();
        for (int left = 29; left >= 0; left--) {
            Due.is("left", x.removeArrow(left / 2), left);
            Due.is("arrows", x.value(5), left);
        }
        Due.index("none is left", () -> x.removeArrow(0));
    }

    private static void tellsOfTask() {
        TaskSheets x = Plans.groups(3, 1, 1, 4);
        x.move(4, 199, 60);
        x.set(1, 5);
        int[][] due = {{0, 0, 1, 0, 0, 1, 1}, {1, 0, 1, 0, 1, 1, 1}, {1, 1, 1, 1, 1, 2, 1}, {1, 2, 1, 2, 2, 1, 1},
            {1, 199, 60, 258, 2, 2, 13}};
        for (int task = 0; task < 5; task++) {
            for (int what = 0; what < 7; what++) {
                Due.is("task(" + task + ", " + what + ")", x.task(task, what), due[task][what]);
            }
        }
        x.move(4, 195, 60);
        Due.is("12 parts of 60 days from the first day of a strip", x.task(4, 6), 12);
    }
}
