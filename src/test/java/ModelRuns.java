import java.util.Random;

/** Runs of random calls, from fixed seeds, on a TaskSheets and on the model beside it. */
final class ModelRuns {
    private static final int RUNS = 60;
    private static final int CALLS = 512;

    private final Random random;
    private final TaskSheets real = new TaskSheets();
    private final PlanModel model = new PlanModel();
    private String call = "";
    private String got = "";
    private String want = "";
    private int calls = 0;

    private ModelRuns(long seed) {
        random = new Random(seed);
    }

    static void run() {
        Due.test("the model, mixed runs", () -> runs(1000, 0));
        Due.test("the model, full plans", () -> runs(2000, 1));
        Due.test("the model, task texts", () -> runs(3000, 2));
        Due.test("the model, each byte at each place of a text", ModelRuns::texts);
        Due.test("the model, three groups of each size on low sheets", ModelRuns::layouts);
    }

    private static void texts() {
        String[] right = {"t0,0,1;t5,199,60;a0,1;a01,00;", "t1,20,6;t2,3,10;a1,0;t0,19,6;a2,1;", "t0,0,1;".repeat(11) + "a1,10;"};
        for (String text : right) {
            for (int i = 0; i <= text.length(); i++) {
                text(text.substring(0, i));
                for (char b = 0; b < 128; b++) {
                    text(text.substring(0, i) + b);
                    text(text.substring(0, i) + b + text.substring(i));
                    text(text.substring(0, i) + b + text.substring(Math.min(i + 1, text.length())));
                }
            }
        }
    }

    private static void text(String text) {
        TaskSheets real = Plans.withText(text);
        PlanModel model = new PlanModel();
        for (int i = 0; i < text.length(); i++) {
            model.append(text.charAt(i));
        }
        int want = model.parse();
        Due.is("parse of '" + text + "'", real.parse(), want);
        if (want > 0) {
            Due.is("digest behind '" + text + "'", real.digest(), model.digest());
        }
    }

    private static void layouts() {
        for (int n = 0; n < 8 * 8 * 8; n++) {
            int[] counts = {n % 8, n / 8 % 8, n / 64};
            for (int keep = 0; keep < 2; keep++) {
                TaskSheets real = Plans.groups(3, keep, counts);
                PlanModel model = new PlanModel();
                model.set(0, 3);
                model.set(2, keep);
                for (int group = 0; group < 3; group++) {
                    for (int task = 0; task < counts[group]; task++) {
                        model.addTask(group, task, 1);
                    }
                }
                for (int rows = 3; rows <= 9; rows++) {
                    real.set(0, rows);
                    model.set(0, rows);
                    String what = "keep " + keep + ", groups of " + counts[0] + ", " + counts[1] + " and " + counts[2];
                    Due.is(what + " on " + rows + " rows: digest", real.digest(), model.digest());
                }
            }
        }
    }

    private static void runs(long seed, int kind) {
        for (int n = 0; n < RUNS; n++) {
            new ModelRuns(seed + n).run("run " + (seed + n), kind);
        }
    }

    private void run(String name, int kind) {
        if (kind == 1) {
            fill();
        }
        // No step but that of a text makes more than two calls.
        while (calls + 2 <= CALLS) {
            if (kind == 2 && random.nextInt(12) == 0) {
                writeText();
            } else if (random.nextInt(100) < 40) {
                change(kind);
            } else {
                ask();
            }
            if (!got.equals(want)) {
                Due.wrong(name + ", call " + calls + ": " + call + " answered " + got + ", the model " + want);
                return;
            }
        }
    }

    private void both(String text, Object one, Object other) {
        calls++;
        if (got.equals(want)) {
            call = text;
            got = String.valueOf(one);
            want = String.valueOf(other);
        }
    }

    private void fill() {
        int groups = 1 + random.nextInt(6);
        for (int n = 0; n < 24; n++) {
            addTask(random.nextInt(groups), random.nextInt(200), 1 + random.nextInt(60));
        }
        for (int n = 0; n < 35; n++) {
            addArrow(random.nextInt(24), random.nextInt(24));
        }
    }

    // Mostly in range, at times just outside of it or far away.
    private int near(int low, int high) {
        int kind = random.nextInt(40);
        if (kind == 0) {
            return low - 1;
        }
        if (kind == 1) {
            return high + 1;
        }
        if (kind == 2) {
            return random.nextInt();
        }
        if (kind == 3) {
            return low;
        }
        if (kind == 4) {
            return high;
        }
        return low + random.nextInt(Math.max(1, high - low + 1));
    }

    private int aTask() {
        return near(0, model.value(4) - 1);
    }

    private int anArrow() {
        return near(0, model.value(5) - 1);
    }

    private void addTask(int g, int f, int l) {
        both("addTask(" + g + ", " + f + ", " + l + ")",
            Due.answer(() -> real.addTask(g, f, l)), Due.answer(() -> model.addTask(g, f, l)));
    }

    private void addArrow(int a, int b) {
        both("addArrow(" + a + ", " + b + ")",
            Due.answer(() -> real.addArrow(a, b)), Due.answer(() -> model.addArrow(a, b)));
    }

    private void change(int kind) {
        int choice = random.nextInt(kind == 1 ? 16 : 20);
        int a = aTask();
        int b = aTask();
        int r = anArrow();
        int f = near(0, random.nextInt(3) == 0 ? 20 : 199);
        int l = near(1, random.nextInt(3) == 0 ? 60 : 12);
        if (choice < 3) {
            int what = near(0, 3);
            int[][] ranges = {{3, 20}, {5, 60}, {0, 1}, {0, 1}};
            int[] range = what >= 0 && what < 4 ? ranges[what] : ranges[0];
            int v = near(range[0], random.nextInt(2) == 0 && what == 0 ? 8 : range[1]);
            both("set(" + what + ", " + v + ")", Due.answer(() -> real.set(what, v)), Due.answer(() -> model.set(what, v)));
        } else if (choice < 6) {
            both("move(" + a + ", " + f + ", " + l + ")",
                Due.answer(() -> real.move(a, f, l)), Due.answer(() -> model.move(a, f, l)));
        } else if (choice < 7) {
            both("removeTask(" + a + ")", Due.answer(() -> real.removeTask(a)), Due.answer(() -> model.removeTask(a)));
        } else if (choice < 8) {
            both("removeArrow(" + r + ")", Due.answer(() -> real.removeArrow(r)), Due.answer(() -> model.removeArrow(r)));
        } else if (choice < 12) {
            addArrow(a, b);
        } else if (choice < 14) {
            both("undo()", Due.answer(real::undo), Due.answer(model::undo));
        } else {
            addTask(near(0, 5), f, l);
        }
    }

    private void ask() {
        int task = aTask();
        int arrow = anArrow();
        int sheet = near(0, model.sheets() - 1);
        int band = near(0, model.bands() - 1);
        switch (random.nextInt(16)) {
            case 0: case 1: both("digest()", real.digest(), model.digest()); break;
            case 2: both("covered()", real.covered(), model.covered()); break;
            case 3: both("bands()", real.bands(), model.bands()); both("sheets()", real.sheets(), model.sheets()); break;
            case 4: askRow(band, near(0, model.value(0) - 1)); break;
            case 5: askTwo("sheet", sheet, near(0, 4)); break;
            case 6: askTwo("sheetAt", band, near(0, 51)); break;
            case 7: case 8: askPart(task, near(0, 3), near(0, 4)); break;
            case 9: askTwo("arrow", arrow, near(0, 5)); break;
            case 10: both("arrowOf", Due.answer(() -> real.arrowOf(arrow)), Due.answer(() -> model.arrowOf(arrow))); break;
            case 11: askPlace(sheet, near(0, model.value(0) - 1), near(0, model.value(1) - 1)); break;
            case 12: askTwo("sheetsWith", near(3, 20), near(5, 60)); break;
            case 13: both("delay(" + task + ")", Due.answer(() -> real.delay(task)), Due.answer(() -> model.delay(task))); break;
            case 14: both("longestChain()", real.longestChain(), model.longestChain()); break;
            default:
                if (random.nextInt(4) == 0) {
                    both("fewestExits()", real.fewestExits(), model.fewestExits());
                } else {
                    askTwo("task", task, near(0, 6));
                    int what = near(0, 5);
                    both("value(" + what + ")", Due.answer(() -> real.value(what)), Due.answer(() -> model.value(what)));
                }
        }
    }

    private void askRow(int band, int row) {
        both("row(" + band + ", " + row + ")", Due.answer(() -> real.row(band, row)), Due.answer(() -> model.row(band, row)));
    }

    private void askPart(int task, int part, int what) {
        both("part(" + task + ", " + part + ", " + what + ")",
            Due.answer(() -> real.part(task, part, what)), Due.answer(() -> model.part(task, part, what)));
    }

    private void askPlace(int sheet, int row, int place) {
        both("taskAt(" + sheet + ", " + row + ", " + place + ")",
            Due.answer(() -> real.taskAt(sheet, row, place)), Due.answer(() -> model.taskAt(sheet, row, place)));
    }

    private void askTwo(String name, int a, int b) {
        String text = name + "(" + a + ", " + b + ")";
        switch (name) {
            case "sheet": both(text, Due.answer(() -> real.sheet(a, b)), Due.answer(() -> model.sheet(a, b))); break;
            case "sheetAt": both(text, Due.answer(() -> real.sheetAt(a, b)), Due.answer(() -> model.sheetAt(a, b))); break;
            case "arrow": both(text, Due.answer(() -> real.arrow(a, b)), Due.answer(() -> model.arrow(a, b))); break;
            case "task": both(text, Due.answer(() -> real.task(a, b)), Due.answer(() -> model.task(a, b))); break;
            default: both(text, Due.answer(() -> real.sheetsWith(a, b)), Due.answer(() -> model.sheetsWith(a, b)));
        }
    }

    private void writeText() {
        String text = spoiled(rightText());
        if (calls + text.length() + 2 > CALLS) {
            return;
        }
        if (random.nextInt(4) != 0) {
            both("clearText()", real.clearText(), model.clearText());
        }
        for (int i = 0; i < text.length(); i++) {
            int c = text.charAt(i);
            both("append(" + c + ")", Due.answer(() -> real.append(c)), Due.answer(() -> model.append(c)));
        }
        both("parse() of " + text, real.parse(), model.parse());
    }

    private String rightText() {
        StringBuilder text = new StringBuilder();
        int tasks = random.nextInt(7);
        for (int n = 0; n < tasks; n++) {
            text.append('t').append(random.nextInt(6)).append(',')
                .append(random.nextInt(8) == 0 ? "0" : "").append(random.nextInt(100) * (1 + random.nextInt(2))).append(',')
                .append(random.nextInt(8) == 0 ? "0" : "").append(1 + random.nextInt(random.nextInt(3) == 0 ? 60 : 9))
                .append(';');
            if (n > 0 && random.nextInt(2) == 0) {
                int from = random.nextInt(n + 1);
                text.append('a').append(from).append(',').append((from + 1 + random.nextInt(n)) % (n + 1)).append(';');
            }
        }
        return text.toString();
    }

    private String spoiled(String right) {
        String signs = "ta,;0123456789 x";
        StringBuilder text = new StringBuilder(right);
        int faults = random.nextInt(3);
        for (int n = 0; n < faults; n++) {
            int i = random.nextInt(text.length() + 1);
            char c = signs.charAt(random.nextInt(signs.length()));
            switch (random.nextInt(4)) {
                case 0: text.insert(i, c); break;
                case 1: text.setLength(i); break;
                case 2: if (i < text.length()) { text.setCharAt(i, c); } break;
                default: if (i < text.length()) { text.deleteCharAt(i); }
            }
        }
        return text.toString();
    }
}
