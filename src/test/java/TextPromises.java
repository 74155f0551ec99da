/** Promises 24 to 26: the task text. */
final class TextPromises {
    private TextPromises() {
    }

    static void run() {
        Due.test("promise 24: append", TextPromises::append);
        Due.test("promise 25: clearText", TextPromises::clearText);
        Due.test("promise 26: parse, right texts", TextPromises::parse);
        Due.test("promise 26: parse, the plan goes, the settings and the text stay", TextPromises::parseReplaces);
        Due.test("promise 26: parse, nothing of a longer text stays", TextPromises::parseShorter);
        Due.test("promise 26: parse, syntax error positions", TextPromises::parseErrors);
        Due.test("promise 26: parse, numbers out of range", TextPromises::parseNumbers);
        Due.test("promise 26: parse, tasks of arrows", TextPromises::parseArrows);
        Due.test("promise 26: parse, an error changes nothing", TextPromises::parseChangesNothing);
        Due.test("promise 26: parse, a full text", TextPromises::parseFull);
    }

    private static void append() {
        TaskSheets x = new TaskSheets();
        Due.is("byte 0", x.append(0), 1);
        Due.is("byte 127", x.append(127), 2);
        Due.argument("byte 128", () -> x.append(128));
        Due.argument("byte -1", () -> x.append(-1));
        for (int n = 3; n <= 150; n++) {
            Due.is("byte " + n, x.append('t'), n);
        }
        Due.state("byte 151", () -> x.append('t'));
        Due.argument("the value comes before the length", () -> x.append(128));
        Due.state("append is not undoable", x::undo);
        Due.is("length", x.clearText(), 150);
    }

    private static void clearText() {
        TaskSheets x = Plans.withText("t0,0,1;");
        Due.is("length", x.clearText(), 7);
        Due.is("once more", x.clearText(), 0);
        Due.is("no items", x.parse(), 0);
        Due.is("the first byte again", x.append('x'), 1);
        Due.is("not a byte of the old text", x.parse(), -10);
    }

    private static void parse() {
        Due.is("no items", new TaskSheets().parse(), 0);
        TaskSheets x = Plans.withText("t5,199,60;t0,0,1;a1,0;t3,007,09;a00,02;a1,0;");
        Due.is("tasks", x.parse(), 3);
        Due.is("arrows, the same one only once", x.value(5), 2);
        Due.equal("task 0", x.task(0, 0) + " " + x.task(0, 1) + " " + x.task(0, 2), "5 199 60");
        Due.equal("task 1", x.task(1, 0) + " " + x.task(1, 1) + " " + x.task(1, 2), "0 0 1");
        Due.equal("task 2", x.task(2, 0) + " " + x.task(2, 1) + " " + x.task(2, 2), "3 7 9");
        Due.equal("arrow 0", x.arrow(0, 0) + " " + x.arrow(0, 1), "1 0");
        Due.equal("arrow 1", x.arrow(1, 0) + " " + x.arrow(1, 1), "0 2");
        Due.equal("rows", Plans.rows(x), "[100 1 103 2 105 0 . .]");
        Due.is("back again is another arrow", Plans.withText("t0,0,1;t0,0,1;a0,1;a1,0;").parse(), 2);
    }

    private static void parseReplaces() {
        TaskSheets x = Plans.tasks(1, 1, 1, 2, 2, 2, 3, 3, 3);
        x.addArrow(0, 1);
        x.set(0, 5);
        x.set(3, 1);
        Plans.write(x, "t4,50,20;");
        Due.is("parse", x.parse(), 1);
        Due.is("tasks", x.value(4), 1);
        Due.is("arrows", x.value(5), 0);
        Due.is("rows", x.value(0), 5);
        Due.is("order", x.value(3), 1);
        Due.is("sheets", x.sheets(), 2);
        Due.is("parse once more", x.parse(), 1);
        Due.is("the text stays", x.clearText(), 9);
        Due.is("parse is undoable", x.undo(), 3);
        Due.is("even if it changes nothing", x.value(4), 1);
        x.undo();
        Due.is("the plan from before", x.value(4), 3);
        Due.is("its arrow", x.value(5), 1);
        Due.is("empty text", x.parse(), 0);
        Due.is("no tasks", x.value(4), 0);
        Due.is("no bands", x.bands(), 0);
        TaskSheets y = Plans.withText("t0,0,1;t0,0,1;a0,1;");
        y.parse();
        Due.is("an arrow", y.value(5), 1);
        y.clearText();
        Plans.write(y, "t0,0,1;t0,0,1;a1,0;");
        y.parse();
        Due.is("the arrow of the text before is gone", y.value(5), 1);
        Due.is("this one stands", y.arrow(0, 0), 1);
    }

    private static void parseShorter() {
        TaskSheets x = Plans.withText("t0,0,1;t0,1,9;t0,20,9;t0,50,9;a0,1;a1,2;a1,3;a2,3;");
        x.parse();
        Due.is("the longer one: 50 stands with 28 and 9 on 51 days", x.fewestExits(), 51);
        Due.is("its chain", x.longestChain(), 4);
        x.clearText();
        Plans.write(x, "t0,0,1;t0,1,9;a0,1;");
        x.parse();
        Due.is("tasks", x.value(4), 2);
        Due.is("chain", x.longestChain(), 2);
        Due.is("fewest exits", x.fewestExits(), 5);
        Due.equal("covered", x.covered(), 10.0 / 160.0);
        x.addTask(0, 20, 9);
        Due.is("no delay", x.delay(2), 0);
        Due.is("chain with a task more", x.longestChain(), 2);
        Due.is("an arrow of the longer text is free again", x.addArrow(1, 2), 1);
    }

    private static void errorAt(String text, int position) {
        Due.is("parse of '" + text + "'", Plans.withText(text).parse(), -10 - position);
    }

    private static void parseErrors() {
        String right = "t3,12,34;";
        for (int length = 1; length < right.length(); length++) {
            errorAt(right.substring(0, length), length);
            errorAt(right.substring(0, length) + "x", length);
            errorAt(right + right.substring(0, length), 9 + length);
        }
        errorAt("x", 0);
        errorAt(";", 0);
        errorAt(" t0,0,1;", 0);
        errorAt("T0,0,1;", 0);
        errorAt("t0,0,1;;", 7);
        errorAt("t0,0,1; ", 7);
        errorAt("t6,0,1;", 1);
        errorAt("t/,0,1;", 1);
        errorAt("t00,0,1;", 2);
        errorAt("t0;0,1;", 2);
        errorAt("t0,,1;", 3);
        errorAt("t0,-1,1;", 3);
        errorAt("t0,0;1;", 4);
        errorAt("t0,0,;", 5);
        errorAt("t0,0,1,", 6);
        errorAt("t0,0001,1;", 6);
        errorAt("t0,0,001;", 7);
        errorAt("\0", 0);
    }

    private static void parseNumbers() {
        errorAt("t0,200,1;", 3);
        errorAt("t0,999,1;", 3);
        errorAt("t0,200", 3);
        errorAt("t0,200x", 3);
        errorAt("t0,200;", 3);
        errorAt("t0,2000,1;", 6);
        errorAt("t0,20", 5);
        errorAt("t0,199", 6);
        errorAt("t0,199x", 6);
        errorAt("t0,0,0;", 5);
        errorAt("t0,0,00;", 5);
        errorAt("t0,0,0", 5);
        errorAt("t0,0,61;", 5);
        errorAt("t0,0,61", 5);
        errorAt("t0,0,61x", 5);
        errorAt("t0,0,610;", 7);
        errorAt("t0,0,60", 7);
        errorAt("t0,0,99,", 5);
        Due.is("the greatest", Plans.withText("t0,199,60;").parse(), 1);
        Due.is("the smallest", Plans.withText("t0,000,01;").parse(), 1);
    }

    private static void parseArrows() {
        String two = "t0,0,1;t0,0,1;";
        errorAt("a0,1;", 1);
        errorAt("a", 1);
        errorAt("a,", 1);
        errorAt("a0", 1);
        errorAt("a00x", 1);
        errorAt("a000", 3);
        errorAt("t0,0,1;a0,1;t0,0,1;", 10);
        errorAt(two + "a2,0;", 15);
        errorAt(two + "a0,2;", 17);
        errorAt(two + "a1,1;", 17);
        errorAt(two + "a1,01;", 17);
        errorAt(two + "a1,01", 17);
        errorAt(two + "a1,1x", 17);
        errorAt(two + "a0,", 17);
        errorAt(two + "a0,;", 17);
        errorAt(two + "a0;1;", 16);
        errorAt(two + "a0", 16);
        errorAt(two + "a0tx", 16);
        errorAt(two + "a0,1tx", 18);
        errorAt(two + "a1,011;", 19);
        errorAt(two + "a1,0", 18);
        errorAt(two + "a1,0,", 18);
        errorAt(two + "a001,0;", 17);
        errorAt(two + "a10,0;", 15);
        errorAt(two + "a99,99;", 15);
    }

    private static void parseChangesNothing() {
        TaskSheets x = Plans.tasks(1, 1, 1, 2, 2, 2);
        x.addArrow(0, 1);
        Plans.write(x, "t4,50,20;t0,0,1;a1,0;t");
        long before = x.digest();
        Due.is("parse", x.parse(), -32);
        Due.is("digest", x.digest(), before);
        Due.is("rows", x.row(0, 1), 0);
        Due.is("nothing was saved", x.undo(), 2);
        Due.is("the call before was addArrow", x.value(5), 0);
        Due.is("the text stays", x.clearText(), 22);
    }

    private static void parseFull() {
        StringBuilder text = new StringBuilder();
        for (int n = 0; n < 21; n++) {
            text.append("t").append(n % 6).append(",").append(n % 10).append(",1;");
        }
        TaskSheets x = Plans.withText(text.toString());
        Due.is("21 tasks on 147 bytes", x.parse(), 21);
        Plans.write(x, "t0,");
        Due.is("150 bytes that end too early", x.parse(), -160);
        TaskSheets y = Plans.withText("t0,0,1;t0,0,1;t0,0,1;t0,0,1;t0,0,1;t0,0,1;");
        int arrows = 0;
        for (int n = 0; n < 21; n++) {
            int from = n / 5;
            int to = n % 5 < from ? n % 5 : n % 5 + 1;
            Plans.write(y, "a" + from + "," + to + ";");
            arrows++;
        }
        Due.is("6 tasks", y.parse(), 6);
        Due.is("21 arrows on 147 bytes", y.value(5), arrows);
    }
}
