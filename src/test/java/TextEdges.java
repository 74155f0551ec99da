/** The edges that the document names for the task text (description, promises 24 to 26). */
final class TextEdges {
    private static final String TWO = "t0,0,1;t0,0,1;";

    private TextEdges() {
    }

    static void run() {
        Due.sentence(0, "The text has at most 150 bytes.", TextEdges::mostBytes);
        Due.sentence(0, "each terminated by a semicolon", TextEdges::semicolons);
        Due.sentence(0, "a group digit 0 to 5", TextEdges::groups);
        Due.sentence(0, "a first day of one to three digits", TextEdges::firstDays);
        Due.sentence(0, "a length of one or two digits: a task", TextEdges::lengths);
        Due.sentence(0, "a task number of one or two digits", TextEdges::taskNumbers);
        Due.sentence(0, "an arrow between tasks that were told before in the text", TextEdges::toldBefore);
        Due.sentence(0, "There are no spaces; there may be no items.", TextEdges::noItems);
        Due.sentence(0, "The syntax error position is the index of the first byte that cannot stand where it stands",
            TextEdges::eachByteOfTask);
        Due.sentence(0, "the index of the first byte that cannot stand where it stands", TextEdges::eachByteOfArrow);
        Due.sentence(0, "(a digit too many, too;", TextEdges::digitTooMany);
        Due.sentence(0, "a text of this length has neither a 25th task nor a 31st arrow", TextEdges::mostItems);
        Due.sentence(0, "or the length of the text if the text ends too early", TextEdges::endsTooEarly);
        Due.sentence(0, "For a first day above 199", TextEdges::firstDayAbove);
        Due.sentence(0, "a length that is not 1 to 60", TextEdges::lengthNotInRange);
        Due.sentence(0, "a task that was not told before", TextEdges::notToldBefore);
        Due.sentence(0, "or is the first one of the same arrow", TextEdges::sameTask);
        Due.sentence(0, "found when a byte that is no digit, whichever it is, or the end of the text, follows it",
            TextEdges::whicheverByte);
        Due.sentence(24, "`value`: the byte, 0 to 127", TextEdges::eachByte);
        Due.sentence(24, "Returns the new length of the text.", TextEdges::newLength);
        Due.sentence(25, "Returns the length that it had.", TextEdges::lengthItHad);
        Due.sentence(25, "Empties the task text.", TextEdges::emptied);
        Due.sentence(26, "Makes the plan the one of the text; the settings stay.", TextEdges::planOfText);
        Due.sentence(26, "An arrow that there is already is not added once more.", TextEdges::arrowOnceMore);
        Due.sentence(26, "The text stays as it is.", TextEdges::textStays);
        Due.sentence(26, "Undoable, if there is no syntax error.", TextEdges::undoable);
        Due.sentence(26, "Returns the number of tasks; -10 minus the syntax error position if there is a syntax error",
            TextEdges::answers);
    }

    private static int parse(String text) {
        return Plans.withText(text).parse();
    }

    private static void errorAt(String text, int position) {
        Due.is("parse of '" + text + "'", parse(text), -10 - position);
    }

    private static void right(String text, int tasks) {
        Due.is("parse of '" + text + "'", parse(text), tasks);
    }

    private static void mostBytes() {
        TaskSheets x = Plans.withText(Plans.fullText());
        Due.is("parse of 150 bytes", x.parse(), 21);
        Due.equal("the last one's item", x.task(20, 0) + " " + x.task(20, 1) + " " + x.task(20, 2), "5 199 60");
        Due.state("byte 151", () -> x.append('t'));
        Due.is("parse of 150 bytes again", x.parse(), 21);
        Due.is("length", x.clearText(), 150);
        Due.is("byte 1", x.append(';'), 1);
        Due.is("parse of one byte", x.parse(), -10);
        errorAt(Plans.fullText().substring(0, 149), 149);
        errorAt(Plans.fullText().substring(0, 149) + "x", 149);
        errorAt(Plans.fullText().substring(0, 148) + "1;", 147);
        errorAt(Plans.fullText().substring(0, 147) + "111", 149);
    }

    private static void semicolons() {
        right("t0,0,1;", 1);
        errorAt("t0,0,1", 6);
        errorAt("t0,0,1t0,0,1;", 6);
        errorAt("t0,0,1,t0,0,1;", 6);
        errorAt("t0,0,1;t0,0,1", 13);
        errorAt(";", 0);
        errorAt(";t0,0,1;", 0);
        errorAt("t0,0,1;;", 7);
        errorAt(TWO + "a0,1", 18);
        errorAt(TWO + "a0,1a1,0;", 18);
        errorAt(TWO + "a0,1;;", 19);
    }

    private static void groups() {
        for (char group = '0'; group <= '5'; group++) {
            TaskSheets x = Plans.withText("t" + group + ",0,1;");
            Due.is("group " + group, x.parse(), 1);
            Due.is("group " + group, x.task(0, 0), group - '0');
        }
        errorAt("t/,0,1;", 1);
        errorAt("t6,0,1;", 1);
        errorAt("t9,0,1;", 1);
        errorAt("t,0,1;", 1);
        errorAt("t00,0,1;", 2);
        errorAt("t05,0,1;", 2);
    }

    private static void firstDays() {
        String[] days = {"0", "9", "00", "09", "10", "99", "000", "009", "099", "100", "199"};
        for (String day : days) {
            TaskSheets x = Plans.withText("t0," + day + ",1;");
            Due.is("first day " + day, x.parse(), 1);
            Due.is("first day " + day, x.task(0, 1), Integer.parseInt(day));
        }
        errorAt("t0,,1;", 3);
        errorAt("t0,0000,1;", 6);
        errorAt("t0,0199,1;", 6);
    }

    private static void lengths() {
        String[] lengths = {"1", "9", "01", "09", "10", "59", "60"};
        for (String length : lengths) {
            TaskSheets x = Plans.withText("t0,0," + length + ";");
            Due.is("length " + length, x.parse(), 1);
            Due.is("length " + length, x.task(0, 2), Integer.parseInt(length));
        }
        errorAt("t0,0,;", 5);
        errorAt("t0,0,001;", 7);
        errorAt("t0,0,010;", 7);
    }

    private static void taskNumbers() {
        String[] numbers = {"0", "00", "1", "01"};
        for (String from : numbers) {
            for (String to : numbers) {
                int first = Integer.parseInt(from);
                if (first != Integer.parseInt(to)) {
                    TaskSheets x = Plans.withText(TWO + "a" + from + "," + to + ";");
                    Due.is("tasks", x.parse(), 2);
                    Due.equal("a" + from + "," + to, x.arrow(0, 0) + " " + x.arrow(0, 1), first + " " + (1 - first));
                }
            }
        }
        errorAt(TWO + "a,1;", 15);
        errorAt(TWO + "a0,;", 17);
        errorAt(TWO + "a000,1;", 17);
        errorAt(TWO + "a0,001;", 19);
        TaskSheets x = Plans.withText("t0,0,1;".repeat(11) + "a10,9;a9,10;a010,");
        errorAt("t0,0,1;".repeat(11) + "a010,", 80);
        Due.is("the same behind other arrows", x.parse(), -10 - 92);
        x.clearText();
        Plans.write(x, "t0,0,1;".repeat(11) + "a10,9;a9,10;");
        Due.is("two digits", x.parse(), 11);
        Due.equal("arrow 0", x.arrow(0, 0) + " " + x.arrow(0, 1), "10 9");
        Due.equal("arrow 1", x.arrow(1, 0) + " " + x.arrow(1, 1), "9 10");
    }

    private static void toldBefore() {
        right(TWO + "a0,1;a1,0;", 2);
        right("t0,0,1;t0,0,1;a0,1;t0,0,1;a2,0;a1,2;", 3);
        errorAt("a0,1;" + TWO, 1);
        errorAt("t0,0,1;a0,1;t0,0,1;", 10);
        errorAt("t0,0,1;a1,0;t0,0,1;", 8);
        TaskSheets x = Plans.tasks(0, 0, 1, 0, 0, 1, 0, 0, 1);
        Plans.write(x, "a0,1;");
        Due.is("tasks of the plan were not told in the text", x.parse(), -11);
        TaskSheets y = Plans.withText(TWO);
        y.parse();
        y.clearText();
        Plans.write(y, "t0,0,1;a0,1;");
        Due.is("nor were those of a text before", y.parse(), -20);
    }

    private static void noItems() {
        right("", 0);
        TaskSheets x = Plans.small();
        x.clearText();
        Due.is("no items", x.parse(), 0);
        Due.is("no tasks", x.value(4), 0);
        Due.is("no arrows", x.value(5), 0);
        Due.is("no sheets", x.sheets(), 0);
        Due.is("it is undoable", x.undo(), 3);
        Due.is("the tasks are back", x.value(4), 3);
        String right = "t0,10,10;t0,0,1;a0,1;";
        for (int i = 0; i <= right.length(); i++) {
            errorAt(right.substring(0, i) + " " + right.substring(i), i);
        }
        errorAt(" ", 0);
        errorAt("\n", 0);
        errorAt("t0,0,1;\n", 7);
    }

    /** That just these bytes can stand behind a text, which then goes on or ends too early. */
    private static void canStand(String before, String bytes) {
        for (char b = 0; b < 128; b++) {
            int position = bytes.indexOf(b) >= 0 ? before.length() + 1 : before.length();
            errorAt(before + b, position);
        }
    }

    private static void eachByteOfTask() {
        canStand("", "ta");
        canStand("t", "012345");
        canStand("t3", ",");
        canStand("t3,", "0123456789");
        canStand("t3,1", "0123456789,");
        canStand("t3,12", "0123456789,");
        canStand("t3,123", ",");
        canStand("t3,12,", "123456789");
        canStand("t3,12,34;", "ta");
        canStand("t3,12,34;t", "012345");
        for (char b = 0; b < 128; b++) {
            boolean digit = b >= '0' && b <= '9';
            Due.is("behind a length of one digit " + (int) b, parse("t3,12,3" + b), b == ';' ? 1 : digit ? -18 : -17);
            Due.is("behind a length of two digits " + (int) b, parse("t3,12,34" + b), b == ';' ? 1 : -18);
        }
    }

    private static void eachByteOfArrow() {
        canStand(TWO, "ta");
        canStand(TWO + "a", "01");
        canStand(TWO + "a1,", "0");
        canStand(TWO + "a01", ",");
        canStand(TWO + "a0,1;", "ta");
        for (char b = 0; b < 128; b++) {
            boolean digit = b >= '0' && b <= '9';
            int first = b == ',' || b == '0' || b == '1' ? 17 : digit ? 15 : 16;
            errorAt(TWO + "a0" + b, first);
            Due.is("behind a second task of one digit " + (int) b, parse(TWO + "a1,0" + b),
                b == ';' ? 2 : -10 - (b == '0' ? 19 : digit ? 17 : 18));
            Due.is("behind 0 as a second task, 01 can stand " + (int) b, parse(TWO + "a0,0" + b),
                -10 - (b == '1' ? 19 : 17));
            Due.is("behind a second task of two digits " + (int) b, parse(TWO + "a1,00" + b), b == ';' ? 2 : -29);
        }
    }

    private static void digitTooMany() {
        for (char digit = '0'; digit <= '9'; digit++) {
            errorAt("t0" + digit + ",0,1;", 2);
            errorAt("t0,000" + digit + ",1;", 6);
            errorAt("t0,199" + digit, 6);
            errorAt("t0,0,01" + digit + ";", 7);
            errorAt("t0,0,60" + digit, 7);
            errorAt(TWO + "a00" + digit + ",1;", 17);
            errorAt(TWO + "a0,01" + digit + ";", 19);
            errorAt(TWO + "a0,01" + digit, 19);
        }
        // The digit stands before the byte at which the number would be found out of range.
        errorAt("t0,2000,1;", 6);
        errorAt("t0,0,610;", 7);
        errorAt("t0,0,000;", 7);
        errorAt(TWO + "a990,0;", 17);
        errorAt(TWO + "a0,990;", 19);
        errorAt(TWO + "a0,000;", 19);
    }

    private static void mostItems() {
        right("t0,0,1;".repeat(21), 21);
        errorAt("t0,0,1;".repeat(21) + "t0,", 150);
        TaskSheets x = Plans.withText("t0,0,1;".repeat(21));
        x.parse();
        Due.is("task 20", x.task(20, 2), 1);
        StringBuilder text = new StringBuilder("t0,0,1;".repeat(6));
        int arrows = 0;
        for (int from = 0; from < 6; from++) {
            for (int to = 0; to < 6 && text.length() <= 145; to++) {
                if (from != to) {
                    text.append('a').append(from).append(',').append(to).append(';');
                    arrows++;
                }
            }
        }
        TaskSheets y = Plans.withText(text.toString());
        Due.is("tasks", y.parse(), 6);
        Due.is("as many different arrows as there can be", y.value(5), arrows);
        Due.is("as many different arrows as there can be", arrows, 21);
        TaskSheets z = Plans.withText(TWO + "a0,1;".repeat(27));
        Due.is("149 bytes, 27 times the same arrow", z.parse(), 2);
        Due.is("arrows", z.value(5), 1);
        z.append('a');
        Due.is("150 bytes", z.parse(), -160);
    }

    private static void endsTooEarly() {
        String text = "t0,10,10;t5,199,60;a0,1;a01,00;";
        for (int length = 1; length <= text.length(); length++) {
            String begin = text.substring(0, length);
            boolean whole = begin.endsWith(";");
            int tasks = length < 9 ? 0 : length < 19 ? 1 : 2;
            Due.is("parse of '" + begin + "'", parse(begin), whole ? tasks : -10 - length);
        }
        errorAt("a", 1);
        errorAt("t", 1);
        errorAt(Plans.fullText().substring(0, 140) + "t0,0,1;t0,", 150);
    }

    private static void firstDayAbove() {
        right("t0,199,1;", 1);
        errorAt("t0,200,1;", 3);
        errorAt("t0,999,1;", 3);
        errorAt("t5,200,60;", 3);
        errorAt("t0,199,1;t0,200,1;", 12);
        errorAt("t0,200,61;", 3);
        errorAt("t0,200", 3);
        errorAt("t0,199", 6);
        errorAt("t0,20", 5);
        errorAt("t0,20,", 6);
    }

    private static void lengthNotInRange() {
        right("t0,0,1;", 1);
        right("t0,0,60;", 1);
        errorAt("t0,0,0;", 5);
        errorAt("t0,0,00;", 5);
        errorAt("t0,0,61;", 5);
        errorAt("t0,0,99;", 5);
        errorAt("t0,199,0;", 7);
        errorAt("t0,199,61;", 7);
        errorAt("t0,0,1;t0,00,61;", 13);
        errorAt("t0,0,0", 5);
        errorAt("t0,0,00", 5);
        errorAt("t0,0,61", 5);
        errorAt("t0,0,60", 7);
        errorAt("t0,0,6", 6);
        errorAt("t0,0,1", 6);
    }

    private static void notToldBefore() {
        right(TWO + "a1,0;", 2);
        errorAt(TWO + "a2,0;", 15);
        errorAt(TWO + "a0,2;", 17);
        errorAt(TWO + "a1,02;", 17);
        errorAt(TWO + "a02,0;", 15);
        errorAt(TWO + "a2,2;", 15);
        errorAt(TWO + "a2", 15);
        errorAt(TWO + "a0,2", 17);
        errorAt("a0", 1);
        errorAt("a0,0;", 1);
        errorAt("a00,", 1);
        String eleven = "t0,0,1;".repeat(11);
        right(eleven + "a10,0;", 11);
        right(eleven + "a0,10;", 11);
        errorAt(eleven + "a11,0;", 78);
        errorAt(eleven + "a0,11;", 80);
        errorAt(eleven + "a99,0;", 78);
        errorAt(eleven + "a1", 79);
        String all = "t0,0,1;".repeat(20);
        right(all + "a19,0;", 20);
        errorAt(all + "a20,0;", 141);
        errorAt("t0,0,1;".repeat(21) + "a20", 150);
        errorAt("t0,0,1;".repeat(21) + "a21", 148);
    }

    private static void sameTask() {
        right(TWO + "a0,1;", 2);
        errorAt(TWO + "a0,0;", 17);
        errorAt(TWO + "a1,1;", 17);
        errorAt(TWO + "a00,0;", 18);
        errorAt(TWO + "a0,00;", 17);
        errorAt(TWO + "a0,0", 17);
        errorAt(TWO + "a1,01", 17);
        errorAt(TWO + "a1,0", 18);
        errorAt(TWO + "a0,1;a1,1;", 22);
    }

    private static void whicheverByte() {
        for (char b = 0; b < 128; b++) {
            if (b < '0' || b > '9') {
                errorAt("t0,200" + b, 3);
                errorAt("t0,999" + b, 3);
                errorAt("t0,0,0" + b, 5);
                errorAt("t0,0,00" + b, 5);
                errorAt("t0,0,61" + b, 5);
                errorAt(TWO + "a2" + b, 15);
                errorAt(TWO + "a02" + b, 15);
                errorAt(TWO + "a0,2" + b, 17);
                errorAt(TWO + "a0,0" + b, 17);
                errorAt(TWO + "a0,00" + b, 17);
            }
        }
        errorAt("t0,200", 3);
        errorAt("t0,0,0", 5);
        errorAt("t0,0,61", 5);
        errorAt(TWO + "a2", 15);
        errorAt(TWO + "a0,2", 17);
        errorAt(TWO + "a0,0", 17);
    }

    private static void eachByte() {
        TaskSheets x = new TaskSheets();
        for (int b = 0; b < 128; b++) {
            Due.is("byte " + b, x.append(b), b + 1);
        }
        Due.argument("byte -1", () -> x.append(-1));
        Due.argument("byte 128", () -> x.append(128));
        Due.is("length", x.clearText(), 128);
    }

    private static void newLength() {
        TaskSheets x = new TaskSheets();
        for (int length = 1; length <= 150; length++) {
            Due.is("length", x.append(length % 128), length);
        }
        Due.state("byte 151", () -> x.append(0));
        x.clearText();
        Due.is("length of an emptied text", x.append(0), 1);
    }

    private static void lengthItHad() {
        TaskSheets x = new TaskSheets();
        Due.is("a new object", x.clearText(), 0);
        x.append(0);
        Due.is("one byte", x.clearText(), 1);
        Due.is("once more", x.clearText(), 0);
        Due.is("150 bytes", Plans.full().clearText(), 150);
    }

    private static void emptied() {
        TaskSheets x = Plans.small();
        Due.is("length", x.clearText(), 20);
        Due.is("the plan stays", x.value(4), 3);
        Due.is("it saves nothing", x.undo(), 3);
        Due.is("the last arrow was the call before", x.value(5), 1);
        Due.is("the text is not undone", x.clearText(), 0);
        Due.is("no items", x.parse(), 0);
        TaskSheets y = Plans.withText("t0,0,1;");
        y.clearText();
        Plans.write(y, "t0,");
        Due.is("nothing of the text before stays", y.parse(), -13);
    }

    private static void planOfText() {
        TaskSheets x = Plans.full();
        x.set(0, 20);
        x.set(1, 60);
        x.set(2, 0);
        x.set(3, 1);
        Due.is("tasks", x.parse(), 21);
        int[] due = {20, 60, 0, 1, 21, 0};
        for (int what = 0; what < 6; what++) {
            Due.is("value(" + what + ")", x.value(what), due[what]);
        }
        x.clearText();
        Plans.write(x, "t5,199,60;");
        Due.is("tasks", x.parse(), 1);
        Due.is("a plan as if made by calls", x.row(0, 0), 105);
        Due.is("its sheets", x.sheets(), 2);
        Due.index("no task of the plan before", () -> x.task(1, 0));
        Due.index("no arrow of it", () -> x.arrow(0, 0));
    }

    private static void arrowOnceMore() {
        TaskSheets x = Plans.withText(TWO + "t0,0,1;a0,1;a1,0;a0,1;a00,01;a2,1;a0,1;");
        Due.is("tasks", x.parse(), 3);
        Due.is("arrows", x.value(5), 3);
        Due.equal("arrow 0", x.arrow(0, 0) + " " + x.arrow(0, 1), "0 1");
        Due.equal("arrow 1, the other way round", x.arrow(1, 0) + " " + x.arrow(1, 1), "1 0");
        Due.equal("arrow 2", x.arrow(2, 0) + " " + x.arrow(2, 1), "2 1");
        TaskSheets y = Plans.tasks(0, 0, 1, 0, 0, 1);
        y.addArrow(0, 1);
        Plans.write(y, TWO + "a0,1;");
        y.parse();
        Due.is("an arrow of the plan before is none that there is already", y.value(5), 1);
        Due.is("nor does parse add to the plan", y.parse() + y.value(5), 3);
    }

    private static void textStays() {
        TaskSheets x = Plans.withText("t0,0,1;t0,0");
        Due.is("a wrong text", x.parse(), -21);
        Due.is("it goes on", x.append(','), 12);
        Plans.write(x, "9;");
        Due.is("now it is right", x.parse(), 2);
        Due.is("once more", x.parse(), 2);
        x.undo();
        x.undo();
        Due.is("undo does not change it", x.parse(), 2);
        Plans.write(x, "a1,0;");
        Due.is("it goes on behind a right one", x.parse(), 2);
        Due.is("length", x.clearText(), 19);
    }

    private static void undoable() {
        TaskSheets x = Plans.withText("t0,0,1;");
        Due.is("parse", x.parse(), 1);
        x.append('x');
        Due.is("a wrong text", x.parse(), -17);
        Due.is("saved once", x.undo(), 0);
        Due.is("the plan from before the right one", x.value(4), 0);
        Due.state("no more is saved", x::undo);
        TaskSheets y = new TaskSheets();
        Due.is("an empty text on an empty plan", y.parse(), 0);
        Due.is("is saved all the same", y.undo(), 0);
    }

    private static void answers() {
        right("", 0);
        errorAt("x", 0);
        errorAt("t", 1);
        right("t0,0,1;", 1);
        right(TWO + "a0,1;", 2);
        errorAt("t0,0,1;".repeat(21) + "t0,", 150);
        errorAt("t0,0,1;".repeat(21) + "t0x", 149);
        errorAt("t0,0,1;".repeat(21) + "xxx", 147);
    }
}
