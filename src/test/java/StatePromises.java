/** Promises 27 and 28: undo and digest. */
final class StatePromises {
    private StatePromises() {
    }

    static void run() {
        Due.test("promise 27: undo of each undoable method", StatePromises::undoEach);
        Due.test("promise 27: at most four states", StatePromises::undoFour);
        Due.test("promise 27: the text is not undone", StatePromises::undoText);
        Due.test("promise 27: a call that changes nothing is saved", StatePromises::undoOfNothing);
        Due.test("promise 28: digest of a new object", StatePromises::digestNew);
        Due.test("promise 28: digest", StatePromises::digest);
        Due.test("promise 28: digest tells each change", StatePromises::digestTells);
    }

    private interface Change {
        void make(TaskSheets x);
    }

    // Each on an object of its own: an object is used for at most 512 calls.
    private static void undone(String what, Change change) {
        TaskSheets x = Plans.tasks(0, 0, 30, 1, 40, 30, 1, 20, 1);
        x.addArrow(0, 1);
        x.addArrow(1, 2);
        Plans.write(x, "t5,5,5;t4,4,4;");
        String before = told(x);
        change.make(x);
        Due.isTrue(what + " changes something", !told(x).equals(before));
        x.undo();
        Due.equal("undo of " + what, told(x), before);
    }

    /** All but the number of saved states, which the calls between differ in. */
    private static String told(TaskSheets x) {
        StringBuilder text = new StringBuilder();
        for (int what = 0; what < 6; what++) {
            text.append(x.value(what)).append(' ');
        }
        for (int task = 0; task < x.value(4); task++) {
            text.append("t ").append(x.task(task, 0)).append(' ').append(x.task(task, 1)).append(' ')
                .append(x.task(task, 2)).append(' ');
        }
        for (int arrow = 0; arrow < x.value(5); arrow++) {
            for (int what = 0; what < 6; what++) {
                text.append("a ").append(x.arrow(arrow, what)).append(' ');
            }
        }
        return text + Plans.rows(x) + Plans.sheets(x);
    }

    private static void undoEach() {
        undone("set(0)", x -> x.set(0, 3));
        undone("set(1)", x -> x.set(1, 7));
        undone("set(2)", x -> {
            x.set(0, 3);
            x.set(2, 0);
            x.undo();
            x.set(2, 0);
            x.undo();
        });
        undone("set(3)", x -> x.set(3, 1));
        undone("addTask", x -> x.addTask(0, 5, 1));
        undone("move", x -> x.move(1, 150, 1));
        undone("removeTask", x -> x.removeTask(0));
        undone("addArrow", x -> x.addArrow(2, 0));
        undone("removeArrow", x -> x.removeArrow(0));
        undone("parse", TaskSheets::parse);
    }

    private static void undoFour() {
        TaskSheets x = new TaskSheets();
        Due.state("nothing is saved", x::undo);
        for (int n = 0; n < 6; n++) {
            x.addTask(0, n, 1);
        }
        for (int left = 3; left >= 0; left--) {
            Due.is("left", x.undo(), left);
            Due.is("tasks", x.value(4), 2 + left);
        }
        Due.state("the oldest ones were dropped", x::undo);
        Due.is("tasks", x.value(4), 2);
        x.addTask(0, 50, 1);
        x.set(0, 20);
        Due.is("one of two", x.undo(), 1);
        Due.is("rows", x.value(0), 8);
        x.set(0, 10);
        Due.is("saved behind an undo", x.undo(), 1);
        Due.is("rows", x.value(0), 8);
        Due.is("the last one", x.undo(), 0);
        Due.is("tasks", x.value(4), 2);
    }

    private static void undoText() {
        TaskSheets x = Plans.withText("t0,0,1;");
        x.parse();
        Plans.write(x, "t1,");
        x.undo();
        Due.is("length", x.clearText(), 10);
        Due.is("tasks", x.value(4), 0);
    }

    private static void undoOfNothing() {
        TaskSheets x = Plans.tasks(0, 5, 5);
        x.set(0, 8);
        x.move(0, 5, 5);
        x.parse();
        x.parse();
        Due.is("four are saved", x.undo(), 3);
        Due.is("the first parse", x.undo(), 2);
        Due.is("its task", x.value(4), 1);
        Due.is("move", x.undo(), 1);
        Due.is("set", x.undo(), 0);
        Due.is("the task", x.value(4), 1);
        Due.state("addTask was dropped", x::undo);
    }

    private static long hash(long... values) {
        long h = 3259;
        for (long v : values) {
            h = 31 * h + v;
        }
        return h;
    }

    private static void digestNew() {
        Due.is("new", new TaskSheets().digest(), hash(0, 8, 20, 1, 0, 0, 0, 0, 0, 0, 0));
        Due.is("a text", Plans.withText("tt").digest(), hash(2, 8, 20, 1, 0, 0, 0, 0, 0, 0, 0));
    }

    private static void digest() {
        TaskSheets x = Plans.tasks(1, 38, 4, 0, 2, 1);
        x.set(0, 4);
        x.addArrow(1, 0);
        Due.is("two tasks and an arrow", x.digest(), hash(0, 4, 20, 1, 0, 2, 1,
            1, 38, 4, 41, 0, 3, 2,
            0, 2, 1, 2, 0, 1, 1,
            1, 100, 1, 101, 0,
            3, 0, 0, 1, 1, 0, 0, 1, 1, 1, 0, 0, 2, 1, 0, 0,
            1, 0, 0, 1, 1, 0,
            2, 4));
    }

    private static void digestTells() {
        TaskSheets x = Plans.tasks(0, 0, 1, 0, 30, 1, 1, 40, 1);
        java.util.Set<Long> seen = new java.util.HashSet<>();
        Runnable[] changes = {() -> x.append('t'), () -> x.set(1, 19), () -> x.move(0, 1, 1), () -> x.addArrow(0, 1),
            () -> x.addArrow(2, 0), () -> x.set(3, 1), () -> x.set(2, 0), x::undo, () -> x.removeTask(1), x::clearText};
        seen.add(x.digest());
        for (Runnable change : changes) {
            change.run();
            Due.isTrue("a new digest", seen.add(x.digest()));
            Due.is("asked once more", x.digest(), x.digest());
        }
    }
}
