/** Promises 10 to 19: bands, sheets, parts of bars and arrows on them. */
final class SheetPromises {
    private SheetPromises() {
    }

    static void run() {
        Due.test("promise 10: bands", SheetPromises::bands);
        Due.test("promise 11: row, order of the tasks", SheetPromises::rowOrder);
        Due.test("promise 11: row, groups that are kept together", SheetPromises::rowKeep);
        Due.test("promise 11: row, groups that are not kept together", SheetPromises::rowNoKeep);
        Due.test("promise 11: row, wrong inputs", SheetPromises::rowWrong);
        Due.test("promise 12: sheets", SheetPromises::sheets);
        Due.test("promise 12: sheets, as many as there can be", SheetPromises::mostSheets);
        Due.test("promise 13: sheet", SheetPromises::sheet);
        Due.test("promise 13: sheet, exits and arrows", SheetPromises::sheetArrows);
        Due.test("promise 14: sheetAt", SheetPromises::sheetAt);
        Due.test("promise 15: part", SheetPromises::part);
        Due.test("promise 15: part, wrong inputs", SheetPromises::partWrong);
        Due.test("promise 16: arrow", SheetPromises::arrow);
        Due.test("promise 16: arrow, late or not", SheetPromises::arrowLate);
        Due.test("promise 17: arrowOf", SheetPromises::arrowOf);
        Due.test("promise 18: taskAt", SheetPromises::taskAt);
        Due.test("promise 19: covered", SheetPromises::covered);
    }

    private static void bands() {
        Due.is("without tasks", new TaskSheets().bands(), 0);
        Due.is("one task", Plans.tasks(4, 0, 1).bands(), 1);
        Due.is("a band is full", Plans.groups(8, 1, 7).bands(), 1);
        Due.is("a task more", Plans.groups(8, 1, 8).bands(), 2);
        Due.is("3 rows, 24 tasks", Plans.groups(3, 1, 24).bands(), 12);
        TaskSheets x = Plans.groups(3, 0, 5, 5, 5, 3, 3, 3);
        Due.is("3 rows, six groups with an odd count", x.bands(), 15);
        Due.equal("the last bands", Plans.rows(x).substring(Plans.rows(x).length() - 52),
            "[103 15 16][203 17 .][104 18 19][204 20 .][105 21 22][205 23 .]".substring(11));
    }

    private static void rowOrder() {
        TaskSheets x = Plans.tasks(2, 9, 1, 0, 5, 1, 0, 3, 1, 2, 9, 9, 0, 5, 2, 2, 0, 1);
        Due.equal("rows", Plans.rows(x), "[100 2 1 4 102 5 0 3]");
        x.move(2, 6, 1);
        Due.equal("after a move", Plans.rows(x), "[100 1 4 2 102 5 0 3]");
        x.set(0, 20);
        Due.equal("a higher sheet", Plans.rows(x), "[100 1 4 2 102 5 0 3 . . . . . . . . . . . .]");
        Due.is("row of task 3", x.task(3, 5), 7);
    }

    private static void rowKeep() {
        Due.equal("both have room", Plans.rows(Plans.groups(6, 1, 2, 2)), "[100 0 1 101 2 3]");
        Due.equal("the second begins a new band", Plans.rows(Plans.groups(6, 1, 2, 3)),
            "[100 0 1 . . .][101 2 3 4 . .]");
        Due.equal("it has room in no band, so it begins here", Plans.rows(Plans.groups(6, 1, 2, 6)),
            "[100 0 1 101 2 3][201 4 5 6 7 .]");
        Due.equal("it fills an empty band", Plans.rows(Plans.groups(6, 1, 2, 5)), "[100 0 1 . . .][101 2 3 4 5 6]");
        Due.equal("one row free for a heading that has no room anywhere", Plans.rows(Plans.groups(3, 1, 1, 3)),
            "[100 0 .][101 1 2][201 3 .]");
        Due.equal("the first group begins band 0 all the same", Plans.rows(Plans.groups(3, 1, 3)),
            "[100 0 1][200 2 .]");
        Due.equal("behind a repeated heading", Plans.rows(Plans.groups(4, 1, 4, 1)), "[100 0 1 2][200 3 101 4]");
        Due.equal("behind a repeated heading, no room", Plans.rows(Plans.groups(4, 1, 4, 2)),
            "[100 0 1 2][200 3 . .][101 4 5 .]");
    }

    private static void rowNoKeep() {
        Due.equal("a group is cut", Plans.rows(Plans.groups(6, 0, 2, 3)), "[100 0 1 101 2 3][201 4 . . . .]");
        Due.equal("two rows free", Plans.rows(Plans.groups(6, 0, 3, 2)), "[100 0 1 2 101 3][201 4 . . . .]");
        Due.equal("one row free", Plans.rows(Plans.groups(6, 0, 4, 2)), "[100 0 1 2 3 .][101 4 5 . . .]");
        Due.equal("no row free", Plans.rows(Plans.groups(6, 0, 5, 1)), "[100 0 1 2 3 4][101 5 . . . .]");
        Due.equal("cut twice", Plans.rows(Plans.groups(3, 0, 5)), "[100 0 1][200 2 3][200 4 .]");
        TaskSheets x = Plans.groups(6, 1, 2, 3);
        x.set(2, 0);
        Due.equal("keep goes off", Plans.rows(x), "[100 0 1 101 2 3][201 4 . . . .]");
    }

    private static void rowWrong() {
        TaskSheets empty = new TaskSheets();
        Due.index("no band at all", () -> empty.row(0, 0));
        TaskSheets x = Plans.groups(5, 1, 6);
        Due.is("the last row", x.row(1, 4), TaskSheets.NONE);
        Due.index("row 5", () -> x.row(0, 5));
        Due.index("row -1", () -> x.row(1, -1));
        Due.index("band 2", () -> x.row(2, 0));
        Due.index("band -1", () -> x.row(-1, 0));
        Due.index("far away", () -> x.row(Integer.MAX_VALUE, Integer.MAX_VALUE));
    }

    private static void sheets() {
        Due.is("without tasks", new TaskSheets().sheets(), 0);
        Due.is("days 0 to 19", Plans.tasks(0, 0, 20).sheets(), 1);
        Due.is("days 0 to 20", Plans.tasks(0, 0, 21).sheets(), 2);
        Due.is("days 19 to 20", Plans.tasks(0, 19, 2).sheets(), 2);
        Due.is("strips between are dropped", Plans.tasks(0, 0, 1, 0, 199, 1).sheets(), 2);
        Due.is("two tasks on one", Plans.tasks(0, 0, 1, 1, 19, 1).sheets(), 1);
        TaskSheets x = Plans.tasks(0, 199, 60);
        Due.is("days 199 to 258", x.sheets(), 4);
        x.set(1, 5);
        Due.is("strips 39 to 51", x.sheets(), 13);
    }

    // Six groups of four bars, two in a band, none of which is on a sheet with another one.
    private static void mostSheets() {
        TaskSheets x = new TaskSheets();
        x.set(0, 3);
        x.set(1, 5);
        for (int group = 0; group < 6; group++) {
            x.addTask(group, 4, 60);
            x.addTask(group, 69, 60);
            x.addTask(group, 74, 60);
            x.addTask(group, 139, 60);
        }
        Due.is("sheets", x.sheets(), 24 * 13);
        Due.is("band of the last one", x.sheet(311, 0), 11);
        Due.is("strip of the last one", x.sheet(311, 1), 39);
        Due.is("parts on the last one", x.sheet(311, 2), 1);
        x.addArrow(23, 0);
        Due.is("exits on the last one", x.sheet(311, 3), 1);
        x.addArrow(0, 1);
        x.move(1, 63, 60);
        Due.is("an arrow on a sheet", x.sheet(12, 4), 1);
        x.undo();
        x.set(3, 1);
        Due.is("the last one by strips", x.sheet(311, 0), 11);
        Due.is("the last one by bands", x.part(23, 12, 0), 311);
    }

    private static void sheet() {
        TaskSheets x = Plans.tasks(0, 15, 10, 0, 62, 1, 1, 0, 1, 1, 23, 1);
        x.set(0, 3);
        Due.equal("bands first", Plans.sheets(x), "0/0 0/1 0/3 1/0 1/1");
        Due.is("parts on 0", x.sheet(0, 2), 1);
        x.set(3, 1);
        Due.equal("strips first", Plans.sheets(x), "0/0 1/0 0/1 1/1 0/3");
        x.set(0, 8);
        Due.equal("one band", Plans.sheets(x), "0/0 0/1 0/3");
        Due.is("two parts on 0", x.sheet(0, 2), 2);
        Due.is("two parts on 1", x.sheet(1, 2), 2);
        Due.is("one part on 2", x.sheet(2, 2), 1);
        Due.index("sheet 3", () -> x.sheet(3, 0));
        Due.index("sheet -1", () -> x.sheet(-1, 0));
        Due.argument("what 5", () -> x.sheet(0, 5));
        Due.argument("what -1", () -> x.sheet(0, -1));
        Due.index("the sheet comes before what", () -> x.sheet(3, 5));
    }

    private static void sheetArrows() {
        TaskSheets x = Plans.tasks(0, 0, 1, 0, 5, 20, 1, 30, 1, 1, 31, 1);
        x.addArrow(0, 1);
        x.addArrow(1, 0);
        x.addArrow(1, 2);
        x.addArrow(0, 3);
        Due.equal("sheets", Plans.sheets(x), "0/0 0/1");
        Due.is("on sheet 0 arrow 1 arrives and arrow 3 leaves", x.sheet(0, 3), 2);
        Due.is("arrow 0 is drawn on sheet 0", x.sheet(0, 4), 1);
        Due.is("on sheet 1 arrow 1 leaves and arrow 3 arrives", x.sheet(1, 3), 2);
        Due.is("arrow 2 is drawn on sheet 1", x.sheet(1, 4), 1);
        x.set(1, 60);
        Due.is("on one sheet there are no exits", x.sheet(0, 3), 0);
        Due.is("all are drawn there", x.sheet(0, 4), 4);
    }

    private static void sheetAt() {
        TaskSheets x = Plans.tasks(0, 15, 10, 1, 62, 1, 2, 258 - 59, 60);
        x.set(0, 3);
        x.set(1, 5);
        Due.is("bands", x.bands(), 3);
        for (int band = 0; band < 3; band++) {
            for (int strip = 0; strip < 60; strip++) {
                boolean printed = band == 0 && strip >= 3 && strip <= 4 || band == 1 && strip == 12
                    || band == 2 && strip >= 39 && strip <= 51;
                int number = band == 0 ? strip - 3 : band == 1 ? 2 : 3 + strip - 39;
                Due.is(band + "/" + strip, x.sheetAt(band, strip), printed ? number : TaskSheets.NONE);
            }
        }
        Due.is("a strip far away", x.sheetAt(0, Integer.MAX_VALUE), TaskSheets.NONE);
        Due.argument("strip -1", () -> x.sheetAt(0, -1));
        Due.index("band 3", () -> x.sheetAt(3, 0));
        Due.index("band -1", () -> x.sheetAt(-1, 0));
        Due.index("the band comes before the strip", () -> x.sheetAt(3, -1));
        Due.index("without tasks", () -> new TaskSheets().sheetAt(0, 0));
    }

    private static void part() {
        TaskSheets x = Plans.tasks(0, 0, 1, 0, 17, 46);
        int[][] due = {{0, 17, 3, -1, 1}, {1, 0, 20, 0, 2}, {2, 0, 20, 1, 3}, {3, 0, 3, 2, -1}};
        Due.is("parts", x.task(1, 6), 4);
        for (int part = 0; part < 4; part++) {
            for (int what = 0; what < 5; what++) {
                Due.is("part(1, " + part + ", " + what + ")", x.part(1, part, what), due[part][what]);
            }
        }
        int[] whole = {0, 0, 1, -1, -1};
        for (int what = 0; what < 5; what++) {
            Due.is("part(0, 0, " + what + ")", x.part(0, 0, what), whole[what]);
        }
        x.move(1, 20, 20);
        Due.is("just a strip", x.task(1, 6), 1);
        Due.is("its place", x.part(1, 0, 1), 0);
        Due.is("its days", x.part(1, 0, 2), 20);
        x.addTask(1, 50, 5);
        x.set(0, 3);
        x.set(3, 1);
        x.move(1, 19, 50);
        Due.equal("sheets by strips", Plans.sheets(x), "0/0 0/1 0/2 1/2 0/3");
        Due.is("goes on over the sheet of another band", x.part(1, 2, 4), 4);
        Due.is("comes from it", x.part(1, 3, 3), 2);
    }

    private static void partWrong() {
        TaskSheets x = Plans.tasks(0, 17, 46);
        Due.index("task 1", () -> x.part(1, 0, 0));
        Due.index("task -1", () -> x.part(-1, 0, 0));
        Due.index("part 4", () -> x.part(0, 4, 0));
        Due.index("part -1", () -> x.part(0, -1, 0));
        Due.argument("what 5", () -> x.part(0, 0, 5));
        Due.argument("what -1", () -> x.part(0, 3, -1));
        Due.index("the part comes before what", () -> x.part(0, 4, 5));
        Due.index("a part far away", () -> x.part(0, Integer.MAX_VALUE, 0));
    }

    private static void arrow() {
        TaskSheets x = Plans.tasks(0, 0, 25, 0, 30, 31, 1, 5, 1);
        x.addArrow(0, 1);
        x.addArrow(0, 2);
        x.addArrow(2, 0);
        x.addArrow(1, 0);
        int[][] due = {{0, 1, 1, 1, -1, 0}, {0, 2, 1, 0, 1, 1}, {2, 0, 0, 0, -1, 1}, {1, 0, 3, 0, 2, 1}};
        for (int arrow = 0; arrow < 4; arrow++) {
            for (int what = 0; what < 6; what++) {
                Due.is("arrow(" + arrow + ", " + what + ")", x.arrow(arrow, what), due[arrow][what]);
            }
        }
        x.set(0, 3);
        x.set(1, 60);
        Due.is("other band, other sheet: leaves", x.arrow(1, 2), 0);
        Due.is("arrives", x.arrow(1, 3), 2);
        Due.is("exit", x.arrow(1, 4), 1);
        Due.index("arrow 4", () -> x.arrow(4, 0));
        Due.index("arrow -1", () -> x.arrow(-1, 0));
        Due.argument("what 6", () -> x.arrow(0, 6));
        Due.argument("what -1", () -> x.arrow(0, -1));
        Due.index("the arrow comes before what", () -> x.arrow(4, 6));
    }

    private static void arrowLate() {
        TaskSheets x = Plans.tasks(0, 10, 5, 0, 14, 1);
        x.addArrow(0, 1);
        Due.is("on the last day", x.arrow(0, 5), 1);
        x.move(1, 15, 1);
        Due.is("on the day after", x.arrow(0, 5), 0);
        x.move(0, 10, 6);
        Due.is("the first one grows", x.arrow(0, 5), 1);
    }

    private static void arrowOf() {
        TaskSheets x = Plans.tasks(0, 0, 1, 0, 1, 1, 0, 30, 1, 0, 50, 1);
        Due.index("no exits", () -> x.arrowOf(1));
        x.addArrow(0, 1);
        x.addArrow(0, 2);
        x.addArrow(1, 0);
        x.addArrow(3, 2);
        Due.is("exit 1", x.arrowOf(1), 1);
        Due.is("exit 2", x.arrowOf(2), 3);
        Due.index("exit 0", () -> x.arrowOf(0));
        Due.index("exit 3", () -> x.arrowOf(3));
        Due.index("exit -1", () -> x.arrowOf(-1));
        x.removeArrow(1);
        Due.is("exit 1 is another one's", x.arrowOf(1), 2);
        Due.index("exit 2 is gone", () -> x.arrowOf(2));
        TaskSheets y = new TaskSheets();
        for (int n = 0; n < 7; n++) {
            y.addTask(0, 20 * n, 1);
        }
        for (int n = 0; n < 30; n++) {
            y.addArrow(n / 6, n % 6 < n / 6 ? n % 6 : n % 6 + 1);
        }
        for (int n = 0; n < 30; n++) {
            Due.is("exit " + (n + 1), y.arrowOf(n + 1), n);
        }
        Due.index("exit 31", () -> y.arrowOf(31));
    }

    private static void taskAt() {
        TaskSheets x = Plans.tasks(0, 0, 5, 0, 17, 6);
        for (int place = 0; place < 20; place++) {
            Due.is("heading", x.taskAt(0, 0, place), TaskSheets.NONE);
            Due.is("task 0, sheet 0, " + place, x.taskAt(0, 1, place), place < 5 ? 0 : TaskSheets.NONE);
            Due.is("task 1, sheet 0, " + place, x.taskAt(0, 2, place), place >= 17 ? 1 : TaskSheets.NONE);
            Due.is("task 0, sheet 1, " + place, x.taskAt(1, 1, place), TaskSheets.NONE);
            Due.is("task 1, sheet 1, " + place, x.taskAt(1, 2, place), place < 3 ? 1 : TaskSheets.NONE);
            Due.is("free row", x.taskAt(1, 7, place), TaskSheets.NONE);
        }
        Due.index("sheet 2", () -> x.taskAt(2, 0, 0));
        Due.index("sheet -1", () -> x.taskAt(-1, 0, 0));
        Due.index("row 8", () -> x.taskAt(0, 8, 0));
        Due.index("row -1", () -> x.taskAt(0, -1, 0));
        Due.index("place 20", () -> x.taskAt(0, 0, 20));
        Due.index("place -1", () -> x.taskAt(0, 0, -1));
        Due.index("without tasks", () -> new TaskSheets().taskAt(0, 0, 0));
    }

    private static void covered() {
        Due.equal("without sheets", new TaskSheets().covered(), 0.0);
        TaskSheets x = Plans.tasks(0, 0, 20);
        Due.equal("20 of 160", x.covered(), 0.125);
        x.addTask(3, 19, 3);
        Due.equal("23 of 320", x.covered(), 23.0 / 320.0);
        x.set(0, 7);
        x.set(1, 5);
        Due.equal("23 of 7 * 5 * 5", x.covered(), 23.0 / 175.0);
        x.removeTask(1);
        Due.equal("20 of 7 * 5 * 4", x.covered(), 20.0 / 140.0);
    }
}
