/** Plans that several tests begin with. */
final class Plans {
    private Plans() {
    }

    /** A plan of tasks that are told in threes: group, first day, length. */
    static TaskSheets tasks(int... threes) {
        TaskSheets x = new TaskSheets();
        for (int i = 0; i + 2 < threes.length; i += 3) {
            x.addTask(threes[i], threes[i + 1], threes[i + 2]);
        }
        return x;
    }

    /** A plan with so many tasks of a day in each group, the group's number and the task's day being told. */
    static TaskSheets groups(int rows, int keep, int... counts) {
        TaskSheets x = new TaskSheets();
        x.set(0, rows);
        x.set(2, keep);
        for (int group = 0; group < counts.length; group++) {
            for (int n = 0; n < counts[group]; n++) {
                x.addTask(group, n, 1);
            }
        }
        return x;
    }

    /** The rows of all bands as a text: a band in brackets, a free row as a point. */
    static String rows(TaskSheets x) {
        StringBuilder text = new StringBuilder();
        for (int band = 0; band < x.bands(); band++) {
            text.append('[');
            for (int row = 0; row < x.value(0); row++) {
                int content = x.row(band, row);
                text.append(row > 0 ? " " : "").append(content == TaskSheets.NONE ? "." : String.valueOf(content));
            }
            text.append(']');
        }
        return text.toString();
    }

    /** The sheets as a text: band/strip of each. */
    static String sheets(TaskSheets x) {
        StringBuilder text = new StringBuilder();
        for (int sheet = 0; sheet < x.sheets(); sheet++) {
            text.append(sheet > 0 ? " " : "").append(x.sheet(sheet, 0)).append('/').append(x.sheet(sheet, 1));
        }
        return text.toString();
    }

    /** All that an object holds, told by its answers; it is undone and emptied by this. */
    static String whole(TaskSheets x) {
        StringBuilder text = new StringBuilder().append(x.digest());
        for (int n = 0; n < 5; n++) {
            text.append(' ').append(Due.answer(x::undo)).append(' ').append(x.digest());
        }
        text.append(' ').append(x.parse()).append(' ').append(x.digest()).append(' ').append(x.clearText());
        return text.toString();
    }

    /** Three tasks and two arrows, on sheets of 5 rows and 10 days; a text; four saved states, the oldest dropped. */
    static TaskSheets small() {
        TaskSheets x = tasks(0, 3, 12, 4, 15, 4, 0, 16, 9);
        x.set(0, 5);
        x.set(1, 10);
        x.addArrow(0, 1);
        x.addArrow(2, 0);
        write(x, "t5,50,5;t2,2,2;a1,0;");
        return x;
    }

    /** 24 tasks, 30 arrows and a text of 150 bytes. */
    static TaskSheets full() {
        TaskSheets x = new TaskSheets();
        for (int n = 0; n < 24; n++) {
            x.addTask(n % 6, 8 * n, 1 + n);
        }
        for (int n = 0; n < 30; n++) {
            x.addArrow(n % 24, (n % 24 + 1 + n / 24) % 24);
        }
        write(x, fullText());
        return x;
    }

    /** A right text of 150 bytes, with 21 tasks. */
    static String fullText() {
        return "t0,0,1;".repeat(20) + "t5,199,60;";
    }

    static TaskSheets withText(String text) {
        TaskSheets x = new TaskSheets();
        write(x, text);
        return x;
    }

    static void write(TaskSheets x, String text) {
        for (int i = 0; i < text.length(); i++) {
            x.append(text.charAt(i));
        }
    }
}
