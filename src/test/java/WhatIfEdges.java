/** The edges that the document names for promises 20 to 23, none refused; and that a question changes nothing. */
final class WhatIfEdges {
    private WhatIfEdges() {
    }

    static void run() {
        Due.sentence(20, "Tells how many sheets there would be with other sizes of the sheets.", WhatIfEdges::allSizes);
        Due.sentence(20, "Returns the number of sheets.", WhatIfEdges::sheetsOfSizes);
        Due.sentence(21, "Returns the number of days, 5 to 60, of several the smallest one.", WhatIfEdges::fewestExits);
        Due.sentence(21, "with which there are the fewest exits", WhatIfEdges::nearlyAllExits);
        Due.sentence(21, "with the present number of rows", WhatIfEdges::presentRows);
        Due.sentence(22, "Returns the number of days, 0 if none is late.", WhatIfEdges::delay);
        Due.sentence(22, "so that none of its arriving arrows is late", WhatIfEdges::severalArrows);
        Due.sentence(23, "Returns the number of tasks; 0 without tasks.", WhatIfEdges::longestChain);
        Due.sentence(23, "the greatest number of tasks, each with an arrow that is not late to the next one",
            WhatIfEdges::chains);
        Due.test("a question changes nothing", WhatIfEdges::questions);
    }

    private static TaskSheets mixed() {
        return Plans.tasks(0, 4, 60, 0, 69, 33, 1, 0, 1, 1, 199, 60, 1, 30, 5, 3, 74, 60, 3, 139, 7, 5, 100, 20, 5, 5, 5);
    }

    private static void allSizes() {
        for (int rows = 3; rows <= 20; rows++) {
            TaskSheets asked = mixed();
            TaskSheets set = mixed();
            set.set(0, rows);
            for (int days = 5; days <= 60; days++) {
                set.set(1, days);
                Due.is("sheetsWith(" + rows + ", " + days + ")", asked.sheetsWith(rows, days), set.sheets());
                Due.is("the same, asked with other settings", set.sheetsWith(rows, 65 - days), asked.sheetsWith(rows, 65 - days));
            }
        }
    }

    private static void sheetsOfSizes() {
        Due.is("without tasks, the smallest", new TaskSheets().sheetsWith(3, 5), 0);
        Due.is("without tasks, the greatest", new TaskSheets().sheetsWith(20, 60), 0);
        TaskSheets x = Plans.tasks(0, 0, 60, 1, 60, 1);
        Due.is("3 rows of 5 days", x.sheetsWith(3, 5), 13);
        Due.is("3 rows of 60 days", x.sheetsWith(3, 60), 2);
        Due.is("20 rows of 5 days", x.sheetsWith(20, 5), 13);
        Due.is("20 rows of 60 days", x.sheetsWith(20, 60), 2);
        x.move(1, 59, 1);
        Due.is("a band more", x.sheetsWith(3, 60), 2);
        Due.is("one band", x.sheetsWith(4, 60), 1);
        TaskSheets most = new TaskSheets();
        for (int group = 0; group < 6; group++) {
            most.addTask(group, 4, 60);
            most.addTask(group, 69, 60);
            most.addTask(group, 74, 60);
            most.addTask(group, 139, 60);
        }
        Due.is("the most there can be", most.sheetsWith(3, 5), 312);
        TaskSheets y = Plans.groups(20, 1, 2, 3);
        y.move(4, 100, 1);
        Due.is("keep is 1", y.sheetsWith(6, 20), 3);
        y.move(3, 100, 1);
        y.move(2, 100, 1);
        Due.is("kept together", y.sheetsWith(6, 20), 2);
        y.set(2, 0);
        Due.is("keep is 0", y.sheetsWith(6, 20), 3);
        y.set(3, 1);
        Due.is("the order does not count", y.sheetsWith(6, 20), 3);
    }

    private static TaskSheets pair(int last, int first) {
        TaskSheets x = Plans.tasks(0, last, 1, 0, first, 1);
        x.addArrow(0, 1);
        return x;
    }

    private static void fewestExits() {
        Due.is("without tasks", new TaskSheets().fewestExits(), 5);
        Due.is("without arrows", Plans.tasks(0, 199, 60).fewestExits(), 5);
        Due.is("none with any", pair(0, 4).fewestExits(), 5);
        Due.is("none from 6 on", pair(0, 5).fewestExits(), 6);
        Due.is("none with 59 and 60", pair(0, 58).fewestExits(), 59);
        Due.is("none with 60 alone", pair(0, 59).fewestExits(), 60);
        Due.is("one with each", pair(0, 60).fewestExits(), 5);
        Due.is("the greatest days", pair(199, 198).fewestExits(), 5);
        Due.is("none with 25, where a strip has the days 175 to 199", pair(199, 179).fewestExits(), 25);
        TaskSheets x = Plans.tasks(0, 0, 1, 0, 59, 1, 0, 60, 1, 0, 119, 1);
        x.addArrow(0, 1);
        x.addArrow(2, 3);
        x.addArrow(1, 2);
        Due.is("one with 60, more with fewer", x.fewestExits(), 60);
        x.addArrow(0, 2);
        Due.is("an arrow that always has one", x.fewestExits(), 60);
        x.set(1, 33);
        Due.is("the setting does not count", x.fewestExits(), 60);
        Due.is("the setting stays", x.value(1), 33);
    }

    // Six bands, and all 30 arrows from one to another; then one of them within a band.
    private static void nearlyAllExits() {
        TaskSheets x = Plans.tasks(0, 0, 1, 1, 0, 1, 2, 0, 1, 3, 0, 1, 4, 0, 1, 5, 0, 1, 0, 10, 1);
        x.set(0, 3);
        for (int n = 0; n < 30; n++) {
            x.addArrow(n / 5, n % 5 < n / 5 ? n % 5 : n % 5 + 1);
        }
        Due.is("30 exits with any", x.fewestExits(), 5);
        x.removeArrow(0);
        x.addArrow(0, 6);
        Due.is("29 exits from 11 on", x.fewestExits(), 11);
        x.set(1, 10);
        Due.is("exit 30", x.arrowOf(30), 29);
        x.set(1, 11);
        Due.is("exit 29", x.arrowOf(29), 28);
        Due.index("no exit 30", () -> x.arrowOf(30));
    }

    private static void presentRows() {
        // Arrow 0 joins groups 0 and 1; arrow 1 is within group 0.
        TaskSheets x = Plans.tasks(0, 0, 1, 0, 10, 1, 1, 30, 1);
        x.addArrow(0, 2);
        x.addArrow(0, 1);
        Due.is("8 rows, one band", x.fewestExits(), 31);
        x.set(0, 4);
        Due.is("4 rows, two bands", x.fewestExits(), 11);
        x.set(0, 5);
        Due.is("5 rows, one band", x.fewestExits(), 31);
        x.set(0, 4);
        x.set(2, 0);
        Due.is("4 rows, keep is 0, two bands all the same", x.fewestExits(), 11);
        x.undo();
        x.undo();
        Due.is("undone", x.fewestExits(), 31);
    }

    private static void delay() {
        Due.is("no arrows", Plans.tasks(0, 0, 1).delay(0), 0);
        int[][] due = {{0, 1, 0, 1}, {0, 1, 1, 0}, {0, 1, 2, 0}, {0, 60, 59, 1}, {0, 60, 60, 0}, {199, 60, 0, 259},
            {199, 60, 199, 60}, {199, 1, 199, 1}, {198, 1, 199, 0}};
        for (int[] row : due) {
            TaskSheets x = Plans.tasks(0, row[0], row[1], 1, row[2], 60);
            x.addArrow(0, 1);
            String what = row[1] + " days from " + row[0] + ", to day " + row[2];
            Due.is(what, x.delay(1), row[3]);
            Due.is(what + ", the task where it leaves", x.delay(0), 0);
            Due.is(what + ", late", x.arrow(0, 5), row[3] > 0 ? 1 : 0);
        }
        TaskSheets x = Plans.tasks(0, 10, 5, 0, 3, 4);
        x.addArrow(0, 1);
        Due.is("days", x.delay(1), 12);
        x.move(1, 3 + 12, 4);
        Due.is("moved by them, none is late", x.delay(1), 0);
        x.move(1, 3 + 11, 4);
        Due.is("moved by a day less, one is", x.delay(1), 1);
    }

    private static void severalArrows() {
        TaskSheets x = Plans.tasks(0, 50, 1, 0, 0, 5, 0, 0, 60, 0, 52, 1);
        x.addArrow(1, 3);
        Due.is("none is late", x.delay(3), 0);
        x.addArrow(2, 3);
        Due.is("the second one is", x.delay(3), 8);
        x.addArrow(0, 3);
        Due.is("the third one is not", x.delay(3), 8);
        x.addArrow(3, 0);
        Due.is("a leaving one does not count", x.delay(3), 8);
        Due.is("it arrives elsewhere", x.delay(0), 3);
        x.removeArrow(1);
        Due.is("none is late again", x.delay(3), 0);
        TaskSheets y = new TaskSheets();
        for (int n = 0; n < 24; n++) {
            y.addTask(n % 6, 8 * n, 8);
        }
        for (int n = 0; n < 23; n++) {
            y.addArrow(n, 23);
        }
        Due.is("23 arrive, none late", y.delay(23), 0);
        y.move(23, 183, 1);
        Due.is("by a day", y.delay(23), 1);
        y.move(23, 0, 1);
        Due.is("all late, the last one most", y.delay(23), 184);
    }

    private static void longestChain() {
        Due.is("without tasks", new TaskSheets().longestChain(), 0);
        Due.is("one task", Plans.tasks(0, 0, 1).longestChain(), 1);
        Due.is("two tasks without an arrow", Plans.tasks(0, 0, 1, 0, 1, 1).longestChain(), 1);
        Due.is("an arrow from one day to the next", pair(0, 1).longestChain(), 2);
        Due.is("an arrow within a day is late", pair(0, 0).longestChain(), 1);
        TaskSheets x = Plans.tasks(0, 0, 1, 0, 1, 1);
        x.addArrow(0, 1);
        x.removeTask(1);
        Due.is("a task went", x.longestChain(), 1);
        x.removeTask(0);
        Due.is("the only task went", x.longestChain(), 0);
        for (boolean forth : new boolean[] {true, false}) {
            TaskSheets y = new TaskSheets();
            for (int n = 0; n < 24; n++) {
                y.addTask(0, forth ? n : 23 - n, 1);
            }
            for (int n = 0; n < 23; n++) {
                int i = forth ? n : 22 - n;
                y.addArrow(forth ? i : i + 1, forth ? i + 1 : i);
                Due.is("a task more", y.longestChain(), n + 2);
            }
        }
    }

    private static void chains() {
        TaskSheets x = Plans.tasks(0, 0, 1, 0, 1, 1, 0, 2, 1, 0, 3, 1, 0, 4, 1, 0, 5, 1);
        x.addArrow(0, 3);
        x.addArrow(3, 5);
        Due.is("three", x.longestChain(), 3);
        x.addArrow(0, 1);
        x.addArrow(1, 2);
        Due.is("another one of three", x.longestChain(), 3);
        x.addArrow(2, 4);
        Due.is("the longer one", x.longestChain(), 4);
        x.addArrow(2, 3);
        Due.is("joined", x.longestChain(), 5);
        x.addArrow(3, 4);
        x.addArrow(4, 5);
        Due.is("all", x.longestChain(), 6);
        x.addArrow(5, 0);
        x.addArrow(4, 3);
        Due.is("late ones back do not count", x.longestChain(), 6);
        x.move(2, 2, 2);
        Due.is("task 2 to 3 is late, 2 to 4 is not", x.longestChain(), 5);
        x.move(2, 2, 60);
        Due.is("task 2 to 4 is late too", x.longestChain(), 4);
    }

    private static void questions() {
        Due.question("value", Plans::small, x -> x.value(5));
        Due.question("task", Plans::small, x -> x.task(2, 6));
        Due.question("bands", Plans::small, TaskSheets::bands);
        Due.question("row", Plans::small, x -> x.row(0, 4));
        Due.question("sheets", Plans::small, TaskSheets::sheets);
        Due.question("sheet", Plans::small, x -> x.sheet(2, 3));
        Due.question("sheetAt", Plans::small, x -> x.sheetAt(0, 3));
        Due.question("part", Plans::small, x -> x.part(0, 1, 2));
        Due.question("arrow", Plans::small, x -> x.arrow(1, 4));
        Due.question("arrowOf", Plans::small, x -> x.arrowOf(1));
        Due.question("taskAt", Plans::small, x -> x.taskAt(2, 4, 9));
        Due.question("covered", Plans::small, TaskSheets::covered);
        Due.question("sheetsWith", Plans::small, x -> x.sheetsWith(3, 60));
        Due.question("fewestExits", Plans::small, TaskSheets::fewestExits);
        Due.question("delay", Plans::small, x -> x.delay(0));
        Due.question("longestChain", Plans::small, TaskSheets::longestChain);
        Due.question("digest", Plans::small, TaskSheets::digest);
    }
}
