/** Promises 20 to 23: what would be with other sizes or other days. */
final class WhatIfPromises {
    private WhatIfPromises() {
    }

    static void run() {
        Due.test("promise 20: sheetsWith", WhatIfPromises::sheetsWith);
        Due.test("promise 20: sheetsWith changes nothing", WhatIfPromises::sheetsWithChangesNothing);
        Due.test("promise 21: fewestExits", WhatIfPromises::fewestExits);
        Due.test("promise 22: delay", WhatIfPromises::delay);
        Due.test("promise 23: longestChain", WhatIfPromises::longestChain);
    }

    private static void sheetsWith() {
        Due.is("without tasks", new TaskSheets().sheetsWith(3, 5), 0);
        TaskSheets x = Plans.tasks(0, 0, 20, 1, 19, 3, 1, 100, 1);
        Due.is("as it is", x.sheetsWith(8, 20), 3);
        Due.is("low", x.sheetsWith(3, 20), 4);
        Due.is("narrow", x.sheetsWith(8, 5), 6);
        Due.is("both", x.sheetsWith(3, 5), 7);
        Due.is("greatest", x.sheetsWith(20, 60), 2);
        Due.argument("rows 2", () -> x.sheetsWith(2, 20));
        Due.argument("rows 21", () -> x.sheetsWith(21, 20));
        Due.argument("days 4", () -> x.sheetsWith(8, 4));
        Due.argument("days 61", () -> x.sheetsWith(8, 61));
        TaskSheets y = Plans.groups(20, 1, 2, 3);
        Due.is("keep counts", y.sheetsWith(6, 20), 2);
        y.set(2, 0);
        Due.is("without keep too", y.sheetsWith(6, 20), 2);
        y.move(4, 100, 1);
        y.move(3, 100, 1);
        y.move(2, 100, 1);
        Due.is("cut between the bands", y.sheetsWith(6, 20), 3);
        y.set(2, 1);
        Due.is("kept together", y.sheetsWith(6, 20), 2);
    }

    private static void sheetsWithChangesNothing() {
        TaskSheets x = Plans.tasks(0, 0, 20, 1, 19, 3, 1, 100, 1);
        x.addArrow(0, 2);
        long before = x.digest();
        x.sheetsWith(3, 5);
        x.fewestExits();
        Due.is("digest", x.digest(), before);
        Due.is("sheets", x.sheets(), 3);
        Due.is("rows", x.value(0), 8);
    }

    private static void fewestExits() {
        Due.is("without arrows", Plans.tasks(0, 0, 1).fewestExits(), 5);
        TaskSheets x = Plans.tasks(0, 0, 1, 0, 6, 1);
        x.addArrow(0, 1);
        Due.is("days 0 and 6", x.fewestExits(), 7);
        x.move(1, 59, 1);
        Due.is("days 0 and 59", x.fewestExits(), 60);
        x.move(1, 60, 1);
        Due.is("never on one sheet", x.fewestExits(), 5);
        x.move(0, 7, 3);
        x.move(1, 11, 1);
        Due.is("days 9 and 11: not on 5, on 6", x.fewestExits(), 6);
        x.set(0, 3);
        x.addTask(0, 20, 1);
        x.addArrow(1, 2);
        Due.is("the arrow to another band counts always", x.fewestExits(), 6);
        x.set(0, 8);
        Due.is("9, 11 and 20 on one sheet", x.fewestExits(), 21);
        Due.is("the setting stays", x.value(1), 20);
        x.removeArrow(1);
        Due.is("a removed arrow does not count", x.fewestExits(), 6);
        x.removeArrow(0);
        Due.is("no arrows are left", x.fewestExits(), 5);
    }

    private static void delay() {
        TaskSheets x = Plans.tasks(0, 10, 5, 0, 3, 1, 0, 0, 60, 0, 15, 1);
        Due.is("no arrows", x.delay(0), 0);
        x.addArrow(0, 1);
        Due.is("14 to 3", x.delay(1), 12);
        Due.is("the other end", x.delay(0), 0);
        x.addArrow(2, 1);
        Due.is("59 to 3", x.delay(1), 57);
        x.addArrow(0, 3);
        Due.is("not late by a day", x.delay(3), 0);
        x.move(3, 14, 1);
        Due.is("late by a day", x.delay(3), 1);
        x.move(0, 199, 60);
        x.move(3, 0, 1);
        Due.is("beyond the last first day", x.delay(3), 259);
        x.removeArrow(2);
        Due.is("a removed arrow is not late", x.delay(3), 0);
        Due.index("task 4", () -> x.delay(4));
        Due.index("task -1", () -> x.delay(-1));
    }

    private static void longestChain() {
        TaskSheets x = new TaskSheets();
        Due.is("without tasks", x.longestChain(), 0);
        x.addTask(0, 0, 1);
        Due.is("one task", x.longestChain(), 1);
        for (int n = 1; n < 6; n++) {
            x.addTask(0, 10 * n, 10);
        }
        Due.is("without arrows", x.longestChain(), 1);
        x.addArrow(4, 5);
        x.addArrow(3, 4);
        x.addArrow(2, 3);
        Due.is("in whichever order they were added", x.longestChain(), 4);
        x.addArrow(0, 5);
        x.addArrow(5, 0);
        Due.is("a late arrow does not count", x.longestChain(), 4);
        x.addArrow(1, 2);
        Due.is("longer", x.longestChain(), 5);
        x.move(3, 29, 10);
        Due.is("broken in the middle", x.longestChain(), 3);
        x.undo();
        x.removeArrow(5);
        Due.is("the last arrow goes", x.longestChain(), 4);
        x.removeTask(5);
        x.removeTask(4);
        Due.is("the last tasks go", x.longestChain(), 2);
        x.removeTask(3);
        x.removeTask(2);
        x.removeTask(1);
        x.removeTask(0);
        Due.is("no tasks are left", x.longestChain(), 0);
        TaskSheets y = new TaskSheets();
        for (int n = 0; n < 24; n++) {
            y.addTask(0, 8 * (23 - n), 8);
        }
        for (int n = 0; n < 23; n++) {
            y.addArrow(n + 1, n);
        }
        Due.is("all tasks", y.longestChain(), 24);
    }
}
