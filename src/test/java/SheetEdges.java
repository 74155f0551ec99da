/** The edges that the document names for bands, sheets, parts and arrows (description, promises 10 to 19), none refused. */
final class SheetEdges {
    private SheetEdges() {
    }

    static void run() {
        Due.sentence(0, "each with as many rows as a sheet has (numbered from 0)", SheetEdges::rowsOfBand);
        Due.sentence(0, "The groups that have tasks follow each other in ascending order", SheetEdges::orderOfGroups);
        Due.sentence(0, "tasks are in ascending order of their first days, equal ones of their numbers", SheetEdges::orderOfTasks);
        Due.sentence(0, "do not have room in the free rows of the band", SheetEdges::keepRoomInFreeRows);
        Due.sentence(0, "but would have room in an empty band", SheetEdges::keepRoomInEmptyBand);
        Due.sentence(0, "and the band is not empty, the group begins a new band", SheetEdges::keepEmptyBand);
        Due.sentence(0, "If keep is 1", SheetEdges::keepOff);
        Due.sentence(0, "a heading begins a new band if fewer than 2 rows are free (so that a task can follow it)",
            SheetEdges::fewerThanTwoRows);
        Due.sentence(0, "a task for which no row is free begins a new band, with a repeated heading of its group in row 0 "
            + "and the task in row 1", SheetEdges::repeatedHeading);
        Due.sentence(0, "The day d is in the strip d / (days of a sheet), rounded down, and stands on it at the place d "
            + "modulo (days of a sheet).", SheetEdges::stripsAndPlaces);
        Due.sentence(0, "It is printed exactly if a part of the bar of a task of this band lies on it", SheetEdges::printed);
        Due.sentence(0, "with order 0 by bands, in a band by strips; with order 1 by strips, in a strip by bands",
            SheetEdges::order);
        Due.sentence(0, "cut into parts, one for each strip in which it has a day, numbered from 0", SheetEdges::parts);
        Due.sentence(0, "A part that is not the last one goes on at the next part.", SheetEdges::goesOn);
        Due.sentence(0, "An arrow leaves at the last day of its first task (on the last part of its bar), and arrives at the "
            + "first day of its second task (on the first part).", SheetEdges::endsOfArrows);
        Due.sentence(0, "If both are on the same sheet, it is drawn there.", SheetEdges::sameSheet);
        Due.sentence(0, "the exits are numbered from 1 in ascending order of the arrows that have one", SheetEdges::exits);
        Due.sentence(0, "the number stands on the sheet where it leaves and on that where it arrives", SheetEdges::exitsStand);
        Due.sentence(0, "An arrow is late if the first day of the second task is not after the last day of the first one.",
            SheetEdges::late);
        Due.sentence(10, "Returns the number of bands, 0 without tasks.", SheetEdges::countOfBands);
        Due.sentence(11, "100 + (number of the group) for a heading, 200 + that for a repeated heading; NONE if the row is "
            + "free", SheetEdges::contents);
        Due.sentence(12, "Returns the number of printed sheets.", SheetEdges::countOfSheets);
        Due.sentence(13, "0 its band, 1 its strip, 2 the number of parts of bars on it, 3 the number of exits that stand on "
            + "it (where arrows leave or arrive), 4 the number of arrows that are drawn on it", SheetEdges::tellsOfSheet);
        Due.sentence(14, "Returns the number of the sheet; NONE if it is not printed.", SheetEdges::sheetAt);
        Due.sentence(15, "3 the sheet from which it comes (NONE for the first part), 4 the sheet on which it goes on (NONE "
            + "for the last part)", SheetEdges::tellsOfPart);
        Due.sentence(15, "(NONE for the first part)", SheetEdges::sheetsBeside);
        Due.sentence(16, "4 its exit (NONE if it is drawn on one sheet)", SheetEdges::tellsOfArrow);
        Due.sentence(17, "`exit`: its number, from 1", SheetEdges::arrowOfExit);
        Due.sentence(18, "Returns the number of the task whose bar covers the place; NONE if none does.", SheetEdges::places);
        Due.sentence(19, "0.0 without sheets", SheetEdges::coveredNothing);
        Due.sentence(19, "Returns the number of days in all bars, converted to double, divided by (rows of a sheet) * (days "
            + "of a sheet) * (number of sheets), converted to double", SheetEdges::covered);
    }

    private static void rowsOfBand() {
        for (int rows = 3; rows <= 20; rows++) {
            TaskSheets x = Plans.groups(rows, 1, rows);
            int last = rows - 1;
            Due.is("bands", x.bands(), 2);
            Due.is("row 0 of " + rows, x.row(0, 0), 100);
            Due.is("the last row of " + rows, x.row(0, last), rows - 2);
            Due.is("row 0 of band 1", x.row(1, 0), 200);
            Due.is("row 1 of band 1", x.row(1, 1), rows - 1);
            Due.is("the last row of band 1", x.row(1, last), TaskSheets.NONE);
            Due.index("a row more than " + rows, () -> x.row(0, last + 1));
            Due.index("a row more than " + rows, () -> x.row(1, last + 1));
        }
    }

    private static void orderOfGroups() {
        Due.equal("groups 5 and 0", Plans.rows(Plans.tasks(5, 0, 1, 0, 9, 1)), "[100 1 105 0 . . . .]");
        Due.equal("group 5 alone", Plans.rows(Plans.tasks(5, 0, 1)), "[105 0 . . . . . .]");
        TaskSheets x = Plans.tasks(5, 0, 1, 4, 0, 1, 3, 0, 1, 2, 0, 1, 1, 0, 1, 0, 0, 1);
        x.set(0, 12);
        Due.equal("all six", Plans.rows(x), "[100 5 101 4 102 3 103 2 104 1 105 0]");
        x.removeTask(5);
        x.removeTask(2);
        Due.equal("groups without tasks have no heading", Plans.rows(x), "[101 3 102 2 104 1 105 0 . . . .]");
    }

    private static void orderOfTasks() {
        Due.equal("days 199 and 0", Plans.rows(Plans.tasks(0, 199, 1, 0, 0, 1)), "[100 1 0 . . . . .]");
        Due.equal("the lengths do not count", Plans.rows(Plans.tasks(0, 7, 9, 0, 7, 1, 0, 6, 60)), "[100 2 0 1 . . . .]");
        TaskSheets x = new TaskSheets();
        x.set(0, 20);
        for (int n = 0; n < 19; n++) {
            x.addTask(0, n == 18 ? 4 : n == 0 ? 6 : 5, 60 - n);
        }
        Due.equal("many equal ones", Plans.rows(x), "[100 18 1 2 3 4 5 6 7 8 9 10 11 12 13 14 15 16 17 0]");
        TaskSheets y = Plans.tasks(0, 3, 1, 0, 5, 1, 0, 5, 1);
        y.move(2, 4, 1);
        Due.equal("a day before", Plans.rows(y), "[100 0 2 1 . . . .]");
        y.move(2, 3, 1);
        Due.equal("equal to the one before", Plans.rows(y), "[100 0 2 1 . . . .]");
        y.move(2, 2, 1);
        Due.equal("before all", Plans.rows(y), "[100 2 0 1 . . . .]");
    }

    private static void keepRoomInFreeRows() {
        Due.equal("just room", Plans.rows(Plans.groups(7, 1, 2, 3)), "[100 0 1 101 2 3 4]");
        Due.equal("a row short", Plans.rows(Plans.groups(6, 1, 2, 3)), "[100 0 1 . . .][101 2 3 4 . .]");
        Due.equal("a row left over", Plans.rows(Plans.groups(8, 1, 2, 3)), "[100 0 1 101 2 3 4 .]");
        Due.equal("two rows, just room", Plans.rows(Plans.groups(4, 1, 1, 1)), "[100 0 101 1]");
        Due.equal("20 rows, just room", Plans.rows(Plans.groups(20, 1, 9, 9)).substring(0, 35),
            "[100 0 1 2 3 4 5 6 7 8 101 9 10 11 ");
        Due.is("20 rows, just room", Plans.groups(20, 1, 9, 9).bands(), 1);
        Due.is("20 rows, a row short", Plans.groups(20, 1, 9, 10).task(9, 4), 1);
        Due.equal("behind a cut group, just room", Plans.rows(Plans.groups(5, 1, 5, 2)), "[100 0 1 2 3][200 4 101 5 6]");
        Due.equal("behind a cut group, a row short", Plans.rows(Plans.groups(5, 1, 5, 3)),
            "[100 0 1 2 3][200 4 . . .][101 5 6 7 .]");
    }

    private static void keepRoomInEmptyBand() {
        Due.equal("just room", Plans.rows(Plans.groups(6, 1, 2, 5)), "[100 0 1 . . .][101 2 3 4 5 6]");
        Due.equal("a row short", Plans.rows(Plans.groups(6, 1, 2, 6)), "[100 0 1 101 2 3][201 4 5 6 7 .]");
        Due.equal("3 rows, just room", Plans.rows(Plans.groups(3, 1, 1, 2)), "[100 0 .][101 1 2]");
        Due.equal("4 rows, a row short", Plans.rows(Plans.groups(4, 1, 1, 4)), "[100 0 101 1][201 2 3 4]");
        Due.is("20 rows, just room", Plans.groups(20, 1, 1, 19).row(0, 2), TaskSheets.NONE);
        Due.is("20 rows, a row short", Plans.groups(20, 1, 1, 20).row(0, 2), 101);
    }

    private static void keepEmptyBand() {
        Due.equal("the first group fills band 0", Plans.rows(Plans.groups(4, 1, 3)), "[100 0 1 2]");
        Due.equal("the first group is cut", Plans.rows(Plans.groups(4, 1, 4)), "[100 0 1 2][200 3 . .]");
        Due.equal("no group 0", Plans.rows(Plans.groups(4, 1, 0, 3)), "[101 0 1 2]");
        Due.equal("no band stays empty", Plans.rows(Plans.groups(4, 1, 3, 3, 3)), "[100 0 1 2][101 3 4 5][102 6 7 8]");
    }

    private static void keepOff() {
        TaskSheets x = Plans.groups(6, 1, 2, 3);
        Due.equal("keep is 1", Plans.rows(x), "[100 0 1 . . .][101 2 3 4 . .]");
        x.set(2, 0);
        Due.equal("keep is 0", Plans.rows(x), "[100 0 1 101 2 3][201 4 . . . .]");
        x.set(2, 1);
        Due.equal("keep is 1 again", Plans.rows(x), "[100 0 1 . . .][101 2 3 4 . .]");
        Due.equal("keep is 0, it would fill an empty band", Plans.rows(Plans.groups(4, 0, 1, 3)), "[100 0 101 1][201 2 3 .]");
    }

    private static void fewerThanTwoRows() {
        Due.equal("two rows free", Plans.rows(Plans.groups(5, 0, 2, 2)), "[100 0 1 101 2][201 3 . . .]");
        Due.equal("one row free", Plans.rows(Plans.groups(5, 0, 3, 2)), "[100 0 1 2 .][101 3 4 . .]");
        Due.equal("no row free", Plans.rows(Plans.groups(5, 0, 4, 2)), "[100 0 1 2 3][101 4 5 . .]");
        Due.equal("one row free, keep is 1, room in no band", Plans.rows(Plans.groups(5, 1, 3, 5)),
            "[100 0 1 2 .][101 3 4 5 6][201 7 . . .]");
        Due.equal("two rows free, keep is 1, room in no band", Plans.rows(Plans.groups(5, 1, 2, 5)),
            "[100 0 1 101 2][201 3 4 5 6]");
        Due.equal("no row free, keep is 1, room in no band", Plans.rows(Plans.groups(5, 1, 4, 5)),
            "[100 0 1 2 3][101 4 5 6 7][201 8 . . .]");
        Due.equal("one row free behind a repeated heading", Plans.rows(Plans.groups(3, 0, 3, 1)),
            "[100 0 1][200 2 .][101 3 .]");
    }

    private static void repeatedHeading() {
        Due.equal("the last row is free for it", Plans.rows(Plans.groups(4, 0, 3)), "[100 0 1 2]");
        Due.equal("no row is free for it", Plans.rows(Plans.groups(4, 0, 4)), "[100 0 1 2][200 3 . .]");
        Due.equal("once more", Plans.rows(Plans.groups(4, 0, 0, 0, 7)), "[102 0 1 2][202 3 4 5][202 6 . .]");
        TaskSheets x = Plans.groups(3, 1, 0, 0, 0, 0, 0, 24);
        Due.is("24 tasks in twos", x.bands(), 12);
        for (int band = 0; band < 12; band++) {
            Due.is("heading of band " + band, x.row(band, 0), band == 0 ? 105 : 205);
            Due.is("its first task", x.row(band, 1), 2 * band);
            Due.is("its second task", x.row(band, 2), 2 * band + 1);
        }
        Due.is("band of task 23", x.task(23, 4), 11);
        Due.is("row of task 22", x.task(22, 5), 1);
    }

    private static void stripsAndPlaces() {
        int[][] due = {{0, 20, 0, 0}, {19, 20, 0, 19}, {20, 20, 1, 0}, {199, 20, 9, 19}, {4, 5, 0, 4}, {5, 5, 1, 0},
            {199, 5, 39, 4}, {59, 60, 0, 59}, {60, 60, 1, 0}, {199, 60, 3, 19}, {6, 7, 0, 6}, {7, 7, 1, 0}};
        for (int[] row : due) {
            TaskSheets x = Plans.tasks(0, row[0], 1);
            x.set(1, row[1]);
            String day = "day " + row[0] + " on " + row[1] + " days";
            Due.is(day + ", strip", x.sheet(0, 1), row[2]);
            Due.is(day + ", place", x.part(0, 0, 1), row[3]);
            Due.is(day + ", the task there", x.taskAt(0, 1, row[3]), 0);
        }
        TaskSheets x = Plans.tasks(0, 199, 60);
        for (int days = 5; days <= 60; days++) {
            x.set(1, days);
            int last = x.sheets() - 1;
            Due.is("day 258 on " + days + " days, strip", x.sheet(last, 1), 258 / days);
            Due.is("day 258 on " + days + " days, place", x.part(0, last, 1) + x.part(0, last, 2) - 1, 258 % days);
        }
    }

    private static void printed() {
        Due.is("up to the last day of a strip", Plans.tasks(0, 0, 20).sheets(), 1);
        Due.is("a day more", Plans.tasks(0, 0, 21).sheets(), 2);
        Due.is("from the first day of a strip", Plans.tasks(0, 20, 20).sheets(), 1);
        Due.is("a day earlier", Plans.tasks(0, 19, 20).sheets(), 2);
        TaskSheets x = Plans.tasks(0, 0, 60, 1, 0, 1, 1, 199, 1);
        x.set(0, 3);
        Due.equal("a bar of the band, not of another one", Plans.sheets(x), "0/0 0/1 0/2 1/0 1/9");
        Due.is("sheet 4 is of its last day alone", x.sheet(4, 2), 1);
        x.removeTask(2);
        Due.equal("its sheet is dropped", Plans.sheets(x), "0/0 0/1 0/2 1/0");
        Due.is("its place too", x.sheetAt(1, 9), TaskSheets.NONE);
    }

    private static void order() {
        TaskSheets x = Plans.tasks(0, 0, 1, 0, 199, 60, 5, 20, 21, 5, 0, 1);
        x.set(0, 3);
        Due.equal("order 0", Plans.sheets(x), "0/0 0/9 0/10 0/11 0/12 1/0 1/1 1/2");
        x.set(3, 1);
        Due.equal("order 1", Plans.sheets(x), "0/0 1/0 1/1 1/2 0/9 0/10 0/11 0/12");
        x.set(3, 0);
        Due.equal("order 0 again", Plans.sheets(x), "0/0 0/9 0/10 0/11 0/12 1/0 1/1 1/2");
        TaskSheets y = Plans.tasks(0, 0, 41);
        y.set(3, 1);
        Due.equal("one band", Plans.sheets(y), "0/0 0/1 0/2");
        TaskSheets z = Plans.groups(3, 1, 2, 2, 2);
        z.set(3, 1);
        Due.equal("one strip", Plans.sheets(z), "0/0 1/0 2/0");
    }

    private static void parts() {
        int[][] due = {{0, 1, 1}, {0, 20, 1}, {0, 21, 2}, {19, 1, 1}, {19, 2, 2}, {20, 20, 1}, {20, 21, 2}, {0, 60, 3},
            {19, 21, 2}, {19, 22, 3}, {19, 60, 4}, {199, 60, 4}, {199, 1, 1}};
        for (int[] row : due) {
            TaskSheets x = Plans.tasks(0, row[0], row[1]);
            String what = row[1] + " days from " + row[0];
            Due.is(what, x.task(0, 6), row[2]);
            Due.is(what + ", sheets", x.sheets(), row[2]);
            Due.index(what + ", a part more", () -> x.part(0, row[2], 0));
            int days = 0;
            for (int part = 0; part < row[2]; part++) {
                days += x.part(0, part, 2);
                Due.is(what + ", place of part " + part, x.part(0, part, 1), part == 0 ? row[0] % 20 : 0);
            }
            Due.is(what + ", days of all parts", days, row[1]);
        }
        TaskSheets x = Plans.tasks(0, 4, 60);
        x.set(1, 5);
        Due.is("the most parts", x.task(0, 6), 13);
        Due.is("days of the first one", x.part(0, 0, 2), 1);
        Due.is("days of the second one", x.part(0, 1, 2), 5);
        Due.is("days of the last one", x.part(0, 12, 2), 4);
        Due.index("a part more", () -> x.part(0, 13, 0));
    }

    private static void goesOn() {
        TaskSheets x = Plans.tasks(0, 4, 60, 1, 4, 60);
        x.set(0, 3);
        x.set(1, 5);
        for (int order = 0; order < 2; order++) {
            x.set(3, order);
            for (int part = 0; part < 13; part++) {
                int sheet = order == 0 ? 13 + part : 2 * part + 1;
                int step = order == 0 ? 1 : 2;
                Due.is("part " + part, x.part(1, part, 0), sheet);
                Due.is("part " + part + " comes from", x.part(1, part, 3), part == 0 ? TaskSheets.NONE : sheet - step);
                Due.is("part " + part + " goes on", x.part(1, part, 4), part == 12 ? TaskSheets.NONE : sheet + step);
            }
        }
    }

    private static void endsOfArrows() {
        TaskSheets x = Plans.tasks(0, 19, 22, 0, 0, 1, 0, 60, 20);
        x.addArrow(0, 2);
        x.addArrow(1, 0);
        x.addArrow(2, 0);
        Due.equal("sheets", Plans.sheets(x), "0/0 0/1 0/2 0/3");
        Due.is("leaves on day 40", x.arrow(0, 2), 2);
        Due.is("arrives on day 60", x.arrow(0, 3), 3);
        Due.is("leaves on day 0", x.arrow(1, 2), 0);
        Due.is("arrives on day 19", x.arrow(1, 3), 0);
        Due.is("leaves on day 79", x.arrow(2, 2), 3);
        x.move(2, 59, 22);
        Due.is("arrives on day 59", x.arrow(0, 3), 2);
        Due.is("leaves on day 80", x.arrow(2, 2), 4);
    }

    private static void sameSheet() {
        TaskSheets x = Plans.tasks(0, 0, 20, 0, 19, 1, 0, 20, 1, 5, 19, 1);
        x.addArrow(0, 1);
        x.addArrow(0, 2);
        x.addArrow(0, 3);
        Due.is("the last day of the strip", x.arrow(0, 4), TaskSheets.NONE);
        Due.is("the first day of the next one", x.arrow(1, 4), 1);
        Due.is("another group, the same band", x.arrow(2, 4), TaskSheets.NONE);
        Due.is("drawn on sheet 0", x.sheet(0, 4), 2);
        Due.is("exits on sheet 0", x.sheet(0, 3), 1);
        x.set(0, 4);
        Due.is("another band, the same strip", x.arrow(2, 4), 2);
        Due.is("drawn on sheet 0", x.sheet(0, 4), 1);
        Due.is("exits on sheet 0", x.sheet(0, 3), 2);
    }

    private static void exits() {
        TaskSheets x = Plans.tasks(0, 0, 1, 0, 1, 1, 0, 20, 1, 0, 40, 1);
        x.addArrow(0, 1);
        x.addArrow(3, 0);
        x.addArrow(1, 0);
        x.addArrow(2, 3);
        x.addArrow(0, 2);
        int[] due = {TaskSheets.NONE, 1, TaskSheets.NONE, 2, 3};
        for (int arrow = 0; arrow < 5; arrow++) {
            Due.is("exit of arrow " + arrow, x.arrow(arrow, 4), due[arrow]);
        }
        x.set(3, 1);
        Due.is("the order of the sheets does not count", x.arrow(1, 4), 1);
        x.removeArrow(1);
        Due.is("arrow 2 was 3", x.arrow(2, 4), 1);
        Due.is("arrow 3 was 4", x.arrow(3, 4), 2);
        TaskSheets y = Plans.full();
        y.set(1, 5);
        for (int arrow = 0; arrow < 30; arrow++) {
            Due.is("exit of arrow " + arrow, y.arrow(arrow, 4), arrow + 1);
            Due.is("its arrow", y.arrowOf(arrow + 1), arrow);
        }
    }

    private static void exitsStand() {
        TaskSheets x = Plans.tasks(0, 0, 1, 0, 20, 21, 0, 80, 1);
        x.addArrow(0, 1);
        x.addArrow(1, 2);
        Due.equal("sheets", Plans.sheets(x), "0/0 0/1 0/2 0/4");
        int[] due = {1, 1, 1, 1};
        for (int sheet = 0; sheet < 4; sheet++) {
            Due.is("exits on sheet " + sheet, x.sheet(sheet, 3), due[sheet]);
            Due.is("arrows on sheet " + sheet, x.sheet(sheet, 4), 0);
        }
        TaskSheets y = Plans.tasks(0, 0, 1, 0, 20, 1, 0, 1, 1);
        y.addArrow(0, 1);
        y.addArrow(1, 0);
        y.addArrow(2, 1);
        y.addArrow(0, 2);
        Due.is("three exits on sheet 0", y.sheet(0, 3), 3);
        Due.is("three exits on sheet 1", y.sheet(1, 3), 3);
        Due.is("one arrow on sheet 0", y.sheet(0, 4), 1);
        Due.is("no arrow on sheet 1", y.sheet(1, 4), 0);
    }

    private static void late() {
        for (int first : new int[] {0, 13, 14, 15, 16, 199}) {
            TaskSheets x = Plans.tasks(0, 10, 5, 0, first, 60);
            x.addArrow(0, 1);
            Due.is("day " + first + " behind days 10 to 14", x.arrow(0, 5), first <= 14 ? 1 : 0);
        }
        TaskSheets x = Plans.tasks(0, 199, 1, 0, 199, 1, 0, 198, 1);
        x.addArrow(0, 1);
        x.addArrow(2, 0);
        x.addArrow(0, 2);
        Due.is("the same day", x.arrow(0, 5), 1);
        Due.is("the day after", x.arrow(1, 5), 0);
        Due.is("the day before", x.arrow(2, 5), 1);
    }

    private static void countOfBands() {
        Due.is("without tasks", new TaskSheets().bands(), 0);
        Due.is("one task", Plans.tasks(5, 199, 60).bands(), 1);
        TaskSheets x = Plans.tasks(0, 0, 1);
        x.removeTask(0);
        Due.is("the only task went", x.bands(), 0);
        x.undo();
        Due.is("it is back", x.bands(), 1);
        Due.is("the most bands there can be", Plans.groups(3, 1, 3, 3, 3, 5, 5, 5).bands(), 15);
        Due.is("24 tasks of a group on 20 rows", Plans.groups(20, 1, 24).bands(), 2);
    }

    private static void contents() {
        for (int group = 0; group <= 5; group++) {
            TaskSheets x = Plans.tasks(group, 0, 1, group, 0, 1, group, 0, 1);
            x.set(0, 3);
            Due.equal("group " + group, Plans.rows(x), "[10" + group + " 0 1][20" + group + " 2 .]");
        }
        TaskSheets x = Plans.groups(3, 1, 1, 1, 1, 1, 1, 19);
        Due.is("bands", x.bands(), 15);
        Due.is("task 22", x.row(13, 2), 22);
        Due.is("task 23", x.row(14, 1), 23);
        Due.is("the last row of the last band", x.row(14, 2), TaskSheets.NONE);
        x.set(0, 20);
        x.set(0, 3);
        Due.is("nothing of higher bands stays", x.row(0, 2), TaskSheets.NONE);
        x.removeTask(23);
        x.removeTask(22);
        Due.is("task 21 stays", x.row(13, 1), 21);
        Due.is("nothing of the removed ones stays", x.row(13, 2), TaskSheets.NONE);
        Due.index("nor their band", () -> x.row(14, 0));
    }

    private static void countOfSheets() {
        Due.is("without tasks", new TaskSheets().sheets(), 0);
        Due.is("one day", Plans.tasks(5, 199, 1).sheets(), 1);
        TaskSheets x = Plans.tasks(0, 0, 60);
        x.removeTask(0);
        Due.is("the only task went", x.sheets(), 0);
        Due.is("an empty text", x.parse() + x.sheets(), 0);
        x.undo();
        x.undo();
        Due.is("it is back", x.sheets(), 3);
        x.set(1, 60);
        Due.is("60 days on one sheet", x.sheets(), 1);
        x.set(1, 59);
        Due.is("on sheets of 59 days", x.sheets(), 2);
        x.set(1, 5);
        Due.is("on sheets of 5 days", x.sheets(), 12);
    }

    private static void tellsOfSheet() {
        TaskSheets x = Plans.tasks(0, 0, 21, 0, 5, 5, 5, 199, 60);
        x.set(0, 3);
        x.addArrow(1, 0);
        x.addArrow(0, 2);
        x.addArrow(2, 1);
        int[][] due = {{0, 0, 2, 1, 1}, {0, 1, 1, 1, 0}, {1, 9, 1, 1, 0}, {1, 10, 1, 0, 0}, {1, 11, 1, 0, 0}, {1, 12, 1, 1, 0}};
        Due.is("sheets", x.sheets(), 6);
        for (int sheet = 0; sheet < 6; sheet++) {
            for (int what = 0; what < 5; what++) {
                Due.is("sheet(" + sheet + ", " + what + ")", x.sheet(sheet, what), due[sheet][what]);
            }
        }
        TaskSheets y = Plans.groups(20, 1, 19);
        Due.is("19 parts on one", y.sheet(0, 2), 19);
        TaskSheets z = new TaskSheets();
        for (int n = 0; n < 7; n++) {
            z.addTask(0, n, 1);
        }
        for (int n = 0; n < 30; n++) {
            z.addArrow(n / 6, n % 6 < n / 6 ? n % 6 : n % 6 + 1);
        }
        Due.is("30 arrows on one", z.sheet(0, 4), 30);
        Due.is("no exits on it", z.sheet(0, 3), 0);
    }

    private static void sheetAt() {
        TaskSheets x = Plans.tasks(0, 20, 1, 1, 199, 60);
        x.set(0, 3);
        Due.is("strip 0 of band 0", x.sheetAt(0, 0), TaskSheets.NONE);
        Due.is("strip 1 of band 0", x.sheetAt(0, 1), 0);
        Due.is("strip 2 of band 0", x.sheetAt(0, 2), TaskSheets.NONE);
        Due.is("strip 9 of band 0, where band 1 has one", x.sheetAt(0, 9), TaskSheets.NONE);
        Due.is("strip 8 of band 1", x.sheetAt(1, 8), TaskSheets.NONE);
        Due.is("strip 9 of band 1", x.sheetAt(1, 9), 1);
        Due.is("strip 12 of band 1", x.sheetAt(1, 12), 4);
        for (int strip : new int[] {13, 51, 52, 53, 100, 1 << 20, Integer.MAX_VALUE / 52, 1 << 30, Integer.MAX_VALUE}) {
            Due.is("strip " + strip + " of band 0", x.sheetAt(0, strip), TaskSheets.NONE);
            Due.is("strip " + strip + " of band 1", x.sheetAt(1, strip), TaskSheets.NONE);
        }
        x.set(1, 5);
        Due.is("strip 51 of 5 days, the last one there can be", x.sheetAt(1, 51), 13);
        Due.is("strip 52 of band 0, which is not strip 0 of band 1", x.sheetAt(0, 52), TaskSheets.NONE);
        Due.is("strip 91 of band 0, which is not strip 39 of band 1", x.sheetAt(0, 91), TaskSheets.NONE);
        x.set(1, 60);
        Due.is("nothing of the smaller sheets stays", x.sheetAt(1, 51), TaskSheets.NONE);
    }

    private static void tellsOfPart() {
        TaskSheets x = Plans.tasks(0, 199, 60, 0, 20, 20, 0, 39, 2);
        x.set(1, 20);
        int[][] one = {{0, 0, 20, -1, -1}};
        int[][] two = {{0, 19, 1, -1, 1}, {1, 0, 1, 0, -1}};
        int[][] four = {{2, 19, 1, -1, 3}, {3, 0, 20, 2, 4}, {4, 0, 20, 3, 5}, {5, 0, 19, 4, -1}};
        int[][][] due = {four, one, two};
        for (int task = 0; task < 3; task++) {
            Due.is("parts of task " + task, x.task(task, 6), due[task].length);
            for (int part = 0; part < due[task].length; part++) {
                for (int what = 0; what < 5; what++) {
                    Due.is("part(" + task + ", " + part + ", " + what + ")", x.part(task, part, what), due[task][part][what]);
                }
            }
        }
    }

    // The sheets before and behind a bar are printed, for another bar.
    private static void sheetsBeside() {
        TaskSheets x = Plans.tasks(0, 20, 60, 0, 40, 20, 0, 45, 40);
        Due.equal("sheets", Plans.sheets(x), "0/1 0/2 0/3 0/4");
        Due.is("task 1 stands on", x.part(1, 0, 0), 1);
        Due.is("its only part comes from no sheet", x.part(1, 0, 3), TaskSheets.NONE);
        Due.is("its only part goes on at no sheet", x.part(1, 0, 4), TaskSheets.NONE);
        Due.is("the first of three parts comes from no sheet", x.part(2, 0, 3), TaskSheets.NONE);
        Due.is("the first of three parts goes on", x.part(2, 0, 4), 2);
        Due.is("the last of the first bar comes from", x.part(0, 2, 3), 1);
        Due.is("the last of the first bar goes on at no sheet", x.part(0, 2, 4), TaskSheets.NONE);
    }

    private static void tellsOfArrow() {
        TaskSheets x = Plans.tasks(0, 0, 1, 0, 19, 1, 5, 20, 1);
        x.addArrow(0, 1);
        x.addArrow(1, 2);
        x.addArrow(2, 1);
        int[][] due = {{0, 1, 0, 0, -1, 0}, {1, 2, 0, 1, 1, 0}, {2, 1, 1, 0, 2, 1}};
        for (int arrow = 0; arrow < 3; arrow++) {
            for (int what = 0; what < 6; what++) {
                Due.is("arrow(" + arrow + ", " + what + ")", x.arrow(arrow, what), due[arrow][what]);
            }
        }
        x.set(1, 21);
        Due.is("all on one sheet", x.arrow(1, 4), TaskSheets.NONE);
        Due.is("all on one sheet", x.arrow(2, 4), TaskSheets.NONE);
        x.set(0, 4);
        x.addTask(0, 5, 1);
        Due.is("in another band", x.arrow(1, 4), 1);
        Due.is("there it leaves", x.arrow(2, 2), 1);
        Due.is("there it arrives", x.arrow(1, 3), 1);
    }

    private static void arrowOfExit() {
        TaskSheets x = Plans.tasks(0, 0, 1, 0, 1, 1, 0, 20, 1);
        x.addArrow(0, 1);
        Due.index("one arrow, no exit", () -> x.arrowOf(1));
        x.addArrow(1, 2);
        Due.is("exit 1", x.arrowOf(1), 1);
        Due.index("exit 0", () -> x.arrowOf(0));
        Due.index("exit 2", () -> x.arrowOf(2));
        x.addArrow(2, 0);
        Due.is("exit 2", x.arrowOf(2), 2);
        x.set(1, 60);
        Due.index("no exit on one sheet", () -> x.arrowOf(1));
        TaskSheets y = Plans.full();
        y.set(1, 5);
        Due.is("exit 1 of 30", y.arrowOf(1), 0);
        Due.is("exit 30 of 30", y.arrowOf(30), 29);
        Due.index("exit 31", () -> y.arrowOf(31));
        y.set(3, 1);
        Due.is("the order of the sheets does not count", y.arrowOf(30), 29);
    }

    private static void places() {
        TaskSheets x = Plans.tasks(0, 3, 12, 0, 10, 1, 0, 199, 60);
        x.set(0, 3);
        x.set(1, 5);
        Due.equal("rows", Plans.rows(x), "[100 0 1][200 2 .]");
        for (int sheet = 0; sheet < x.sheets(); sheet++) {
            int band = x.sheet(sheet, 0);
            int strip = x.sheet(sheet, 1);
            for (int row = 0; row < 3; row++) {
                for (int place = 0; place < 5; place++) {
                    int day = 5 * strip + place;
                    boolean covers = band == 0 ? row == 1 && day >= 3 && day <= 14 || row == 2 && day == 10
                        : row == 1 && day >= 199 && day <= 258;
                    int task = band == 0 ? row - 1 : 2;
                    Due.is("sheet " + sheet + ", row " + row + ", place " + place, x.taskAt(sheet, row, place),
                        covers ? task : TaskSheets.NONE);
                }
            }
        }
        TaskSheets y = Plans.groups(20, 1, 0, 0, 0, 0, 0, 24);
        y.set(1, 60);
        y.move(23, 0, 60);
        Due.is("the greatest sheet, the last row, day 17", y.taskAt(0, 19, 17), 17);
        Due.is("the last place", y.taskAt(0, 19, 59), TaskSheets.NONE);
        Due.is("the longest bar", y.taskAt(0, 2, 59), 23);
    }

    private static void coveredNothing() {
        Due.equal("a new object", new TaskSheets().covered(), 0.0);
        TaskSheets x = Plans.tasks(0, 0, 60);
        x.removeTask(0);
        Due.equal("the only task went", x.covered(), 0.0);
        Due.isTrue("it is no negative zero", 1.0 / x.covered() > 0.0);
    }

    private static void covered() {
        TaskSheets x = Plans.tasks(0, 0, 1);
        Due.equal("the smallest plan", x.covered(), 1.0 / 160.0);
        x.set(0, 20);
        x.set(1, 60);
        Due.equal("on the greatest sheet", x.covered(), 1.0 / 1200.0);
        x.set(0, 3);
        x.set(1, 5);
        Due.equal("on the smallest sheet", x.covered(), 1.0 / 15.0);
        x.addTask(0, 0, 1);
        Due.equal("days of two bars count twice", x.covered(), 2.0 / 15.0);
        TaskSheets y = Plans.tasks(0, 0, 5, 0, 0, 5);
        y.set(0, 3);
        y.set(1, 5);
        Due.equal("all that can be covered", y.covered(), 10.0 / 15.0);
        TaskSheets z = new TaskSheets();
        z.set(0, 3);
        z.set(1, 5);
        for (int group = 0; group < 6; group++) {
            z.addTask(group, 4, 60);
            z.addTask(group, 69, 60);
            z.addTask(group, 74, 60);
            z.addTask(group, 139, 60);
        }
        Due.equal("312 sheets", z.covered(), 1440.0 / 4680.0);
    }
}
