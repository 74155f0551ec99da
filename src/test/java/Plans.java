/** Plans that several tests begin with. */
final class Plans {
    private Plans() {
    }

    /** A plan of tasks that are told in threes: group, first day, length. */
    static TaskSheets tasks(int... threes) {
        TaskSheets x = new TaskSheets();
        for (int i = 0; i + 2 < threes.length; i += 3) {
            x.addTask(threes[i], threes[i + 1], threes[i + 2]);
        }
        return x;
    }

    /** A plan with so many tasks of a day in each group, the group's number and the task's day being told. */
    static TaskSheets groups(int rows, int keep, int... counts) {
        TaskSheets x = new TaskSheets();
        x.set(0, rows);
        x.set(2, keep);
        for (int group = 0; group < counts.length; group++) {
            for (int n = 0; n < counts[group]; n++) {
                x.addTask(group, n, 1);
            }
        }
        return x;
    }

    /** The rows of all bands as a text: a band in brackets, a free row as a point. */
    static String rows(TaskSheets x) {
        StringBuilder text = new StringBuilder();
        for (int band = 0; band < x.bands(); band++) {
            text.append('[');
            for (int row = 0; row < x.value(0); row++) {
                int content = x.row(band, row);
                text.append(row > 0 ? " " : "").append(content == TaskSheets.NONE ? "." : String.valueOf(content));
            }
            text.append(']');
        }
        return text.toString();
    }

    /** The sheets as a text: band/strip of each. */
    static String sheets(TaskSheets x) {
        StringBuilder text = new StringBuilder();
        for (int sheet = 0; sheet < x.sheets(); sheet++) {
            text.append(sheet > 0 ? " " : "").append(x.sheet(sheet, 0)).append('/').append(x.sheet(sheet, 1));
        }
        return text.toString();
    }

    static TaskSheets withText(String text) {
        TaskSheets x = new TaskSheets();
        write(x, text);
        return x;
    }

    static void write(TaskSheets x, String text) {
        for (int i = 0; i < text.length(); i++) {
            x.append(text.charAt(i));
        }
    }
}
