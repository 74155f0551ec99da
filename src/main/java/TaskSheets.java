/** A printer of a plan of tasks over several sheets; ../shared/DOC.md says what each call promises. */
public final class TaskSheets {
    public static final int NONE = -1;

    private static final int MOST_TASKS = 24;
    private static final int MOST_ARROWS = 30;
    private static final int GROUPS = 6;
    private static final int LAST_FIRST_DAY = 199;
    private static final int LONGEST_BAR = 60;
    private static final int LAST_DAY = LAST_FIRST_DAY + LONGEST_BAR - 1;

    private static final int ROWS = 0;
    private static final int DAYS = 1;
    private static final int KEEP = 2;
    private static final int ORDER = 3;
    private static final int SETTINGS = 4;
    private static final int[] SMALLEST = {3, 5, 0, 0};
    private static final int[] GREATEST = {20, 60, 1, 1};
    private static final int[] INITIAL = {8, 20, 1, 0};
    private static final int MOST_ROWS = 20;
    private static final int FEWEST_DAYS = 5;
    private static final int MOST_DAYS = 60;

    private static final int HEADING = 100;
    private static final int REPEATED_HEADING = 200;

    // Each band has a task, and a strip has at least five days.
    private static final int MOST_BANDS = MOST_TASKS;
    private static final int MOST_STRIPS = LAST_DAY / FEWEST_DAYS + 1;
    private static final int PARTS_OF_LONGEST_BAR = LONGEST_BAR / FEWEST_DAYS + 1;
    private static final int MOST_SHEETS = MOST_TASKS * PARTS_OF_LONGEST_BAR;

    private static final int MOST_BYTES = 150;
    private static final int GREATEST_BYTE = 127;
    private static final int MOST_SAVED = 4;
    private static final int SYNTAX_ERROR = -10;
    private static final long DIGEST_START = 3259;

    private static final int NUMBERS_OF_VALUE = SETTINGS + 2;
    private static final int NUMBERS_OF_TASK = 7;
    private static final int NUMBERS_OF_SHEET = 5;
    private static final int NUMBERS_OF_PART = 5;
    private static final int NUMBERS_OF_ARROW = 6;

    private final Plan plan = new Plan();
    private final Plan told = new Plan();
    private final History history = new History();
    private final TaskText text = new TaskText();
    private final Chains chains = new Chains();
    private final Bands bands = new Bands();
    private final Sheets sheets = new Sheets();
    private final Exits exits = new Exits();
    private final Bands trialBands = new Bands();
    private final Sheets trialSheets = new Sheets();

    public TaskSheets() {
    }

    // ---- plan

    public int set(int what, int value) throws IllegalArgumentException {
        if (!isSetting(what, value)) {
            throw new IllegalArgumentException("no such setting, or a value out of its range");
        }
        history.save(plan);
        int previous = plan.setting(what);
        plan.putSetting(what, value);
        printAnew();
        return previous;
    }

    public int value(int what) throws IllegalArgumentException {
        if (what < 0 || what >= NUMBERS_OF_VALUE) {
            throw new IllegalArgumentException("no such value");
        }
        return numberOfPlan(what);
    }

    public int addTask(int group, int first, int length) throws IllegalArgumentException, IllegalStateException {
        if (group < 0 || group >= GROUPS || !isBar(first, length)) {
            throw new IllegalArgumentException("group, first day or length out of range");
        }
        if (plan.taskCount() >= MOST_TASKS) {
            throw new IllegalStateException("there are 24 tasks");
        }
        history.save(plan);
        int task = plan.tellTask(group, first, length);
        printAnew();
        return task;
    }

    public int move(int task, int first, int length) throws IndexOutOfBoundsException, IllegalArgumentException {
        requireTask(task);
        if (!isBar(first, length)) {
            throw new IllegalArgumentException("first day or length out of range");
        }
        history.save(plan);
        int previous = plan.first(task);
        plan.putBar(task, first, length);
        printAnew();
        return previous;
    }

    public int removeTask(int task) throws IndexOutOfBoundsException {
        requireTask(task);
        history.save(plan);
        int goneArrows = plan.dropTask(task);
        printAnew();
        return goneArrows;
    }

    public int addArrow(int from, int to)
            throws IndexOutOfBoundsException, IllegalArgumentException, IllegalStateException {
        requireTask(from);
        requireTask(to);
        if (from == to) {
            throw new IllegalArgumentException("an arrow joins two different tasks");
        }
        if (plan.hasArrowBetween(from, to) || plan.arrowCount() >= MOST_ARROWS) {
            throw new IllegalStateException("there is such an arrow, or there are 30 arrows");
        }
        history.save(plan);
        int arrow = plan.tellArrow(from, to);
        printAnew();
        return arrow;
    }

    public int removeArrow(int arrow) throws IndexOutOfBoundsException {
        requireArrow(arrow);
        history.save(plan);
        plan.dropArrow(arrow);
        printAnew();
        return plan.arrowCount();
    }

    public int task(int task, int what) throws IndexOutOfBoundsException, IllegalArgumentException {
        requireTask(task);
        if (what < 0 || what >= NUMBERS_OF_TASK) {
            throw new IllegalArgumentException("no such thing about a task");
        }
        return numberOfTask(task, what);
    }

    // ---- sheets

    public int bands() {
        return bands.count();
    }

    public int row(int band, int row) throws IndexOutOfBoundsException {
        requireBand(band);
        requireRow(row);
        return bands.content(band, row);
    }

    public int sheets() {
        return sheets.count();
    }

    public int sheet(int sheet, int what) throws IndexOutOfBoundsException, IllegalArgumentException {
        requireSheet(sheet);
        if (what < 0 || what >= NUMBERS_OF_SHEET) {
            throw new IllegalArgumentException("no such thing about a sheet");
        }
        return numberOfSheet(sheet, what);
    }

    public int sheetAt(int band, int strip) throws IndexOutOfBoundsException, IllegalArgumentException {
        requireBand(band);
        if (strip < 0) {
            throw new IllegalArgumentException("a strip is 0 or more");
        }
        return sheets.numberAt(band, strip);
    }

    public int part(int task, int part, int what) throws IndexOutOfBoundsException, IllegalArgumentException {
        requireTask(task);
        if (part < 0 || part >= partsOf(task)) {
            throw new IndexOutOfBoundsException("no such part");
        }
        if (what < 0 || what >= NUMBERS_OF_PART) {
            throw new IllegalArgumentException("no such thing about a part");
        }
        return numberOfPart(task, part, what);
    }

    public int arrow(int arrow, int what) throws IndexOutOfBoundsException, IllegalArgumentException {
        requireArrow(arrow);
        if (what < 0 || what >= NUMBERS_OF_ARROW) {
            throw new IllegalArgumentException("no such thing about an arrow");
        }
        return numberOfArrow(arrow, what);
    }

    public int arrowOf(int exit) throws IndexOutOfBoundsException {
        if (exit < 1 || exit > exits.count()) {
            throw new IndexOutOfBoundsException("no such exit");
        }
        return exits.arrowBehind(exit);
    }

    public int taskAt(int sheet, int row, int place) throws IndexOutOfBoundsException {
        requireSheet(sheet);
        requireRow(row);
        if (place < 0 || place >= plan.setting(DAYS)) {
            throw new IndexOutOfBoundsException("no such place");
        }
        int content = bands.content(sheets.bandOf(sheet), row);
        int day = sheets.stripOf(sheet) * plan.setting(DAYS) + place;
        return plan.covers(content, day) ? content : NONE;
    }

    public double covered() {
        int places = plan.setting(ROWS) * plan.setting(DAYS) * sheets.count();
        return places > 0 ? (double) plan.daysOfBars() / (double) places : 0.0;
    }

    // ---- what if

    public int sheetsWith(int rows, int days) throws IllegalArgumentException {
        if (!isSetting(ROWS, rows) || !isSetting(DAYS, days)) {
            throw new IllegalArgumentException("rows or days out of range");
        }
        trialBands.lay(plan, rows);
        trialSheets.print(plan, trialBands, days);
        return trialSheets.count();
    }

    public int fewestExits() {
        int best = FEWEST_DAYS;
        int fewest = MOST_ARROWS + 1;
        for (int days = FEWEST_DAYS; days <= MOST_DAYS; days++) {
            int count = exitsWith(days);
            if (count < fewest) {
                fewest = count;
                best = days;
            }
        }
        return best;
    }

    public int delay(int task) throws IndexOutOfBoundsException {
        requireTask(task);
        int days = 0;
        for (int arrow = 0; arrow < plan.arrowCount(); arrow++) {
            if (plan.to(arrow) == task) {
                days = Math.max(days, plan.last(plan.from(arrow)) + 1 - plan.first(task));
            }
        }
        return days;
    }

    public int longestChain() {
        return chains.longest(plan);
    }

    // ---- text

    public int append(int value) throws IllegalArgumentException, IllegalStateException {
        if (value < 0 || value > GREATEST_BYTE) {
            throw new IllegalArgumentException("a byte is 0 to 127");
        }
        if (text.length() >= MOST_BYTES) {
            throw new IllegalStateException("the text has 150 bytes");
        }
        text.add(value);
        return text.length();
    }

    public int clearText() {
        int length = text.length();
        text.empty();
        return length;
    }

    public int parse() {
        int error = text.read(told);
        if (error != NONE) {
            return SYNTAX_ERROR - error;
        }
        history.save(plan);
        plan.copyTasksAndArrows(told);
        printAnew();
        return plan.taskCount();
    }

    // ---- state

    public int undo() throws IllegalStateException {
        if (history.count() == 0) {
            throw new IllegalStateException("no state is saved");
        }
        history.restore(plan);
        printAnew();
        return history.count();
    }

    public long digest() {
        long h = 31 * DIGEST_START + text.length();
        for (int what = 0; what < NUMBERS_OF_VALUE; what++) {
            h = 31 * h + numberOfPlan(what);
        }
        h = digestTasks(h);
        h = digestBands(h);
        h = digestSheets(h);
        h = digestArrows(h);
        h = 31 * h + chains.longest(plan);
        return 31 * h + history.count();
    }

    private long digestTasks(long start) {
        long h = start;
        for (int task = 0; task < plan.taskCount(); task++) {
            for (int what = 0; what < NUMBERS_OF_TASK; what++) {
                h = 31 * h + numberOfTask(task, what);
            }
        }
        return h;
    }

    private long digestBands(long start) {
        long h = 31 * start + bands.count();
        for (int band = 0; band < bands.count(); band++) {
            for (int row = 0; row < plan.setting(ROWS); row++) {
                h = 31 * h + bands.content(band, row);
            }
        }
        return h;
    }

    private long digestSheets(long start) {
        long h = 31 * start + sheets.count();
        for (int sheet = 0; sheet < sheets.count(); sheet++) {
            for (int what = 0; what < NUMBERS_OF_SHEET; what++) {
                h = 31 * h + numberOfSheet(sheet, what);
            }
        }
        return h;
    }

    private long digestArrows(long start) {
        long h = start;
        for (int arrow = 0; arrow < plan.arrowCount(); arrow++) {
            for (int what = 0; what < NUMBERS_OF_ARROW; what++) {
                h = 31 * h + numberOfArrow(arrow, what);
            }
        }
        return h;
    }

    // ---- what the calls have in common

    // Bands, sheets and exits belong to the plan as it is: whatever changes it ends with this.
    private void printAnew() {
        bands.lay(plan, plan.setting(ROWS));
        sheets.print(plan, bands, plan.setting(DAYS));
        exits.draw(plan, bands, sheets);
    }

    private void requireTask(int task) {
        if (!plan.hasTask(task)) {
            throw new IndexOutOfBoundsException("no such task");
        }
    }

    private void requireArrow(int arrow) {
        if (!plan.hasArrow(arrow)) {
            throw new IndexOutOfBoundsException("no such arrow");
        }
    }

    private void requireBand(int band) {
        if (band < 0 || band >= bands.count()) {
            throw new IndexOutOfBoundsException("no such band");
        }
    }

    private void requireRow(int row) {
        if (row < 0 || row >= plan.setting(ROWS)) {
            throw new IndexOutOfBoundsException("no such row");
        }
    }

    private void requireSheet(int sheet) {
        if (sheet < 0 || sheet >= sheets.count()) {
            throw new IndexOutOfBoundsException("no such sheet");
        }
    }

    private static boolean isSetting(int what, int value) {
        if (what < 0 || what >= SMALLEST.length || what >= GREATEST.length) {
            return false;
        }
        return value >= SMALLEST[what] && value <= GREATEST[what];
    }

    private static boolean isBar(int first, int length) {
        return first >= 0 && first <= LAST_FIRST_DAY && length >= 1 && length <= LONGEST_BAR;
    }

    private static int stripOfDay(int day, int days) {
        return days > 0 ? day / days : 0;
    }

    private int partsOf(int task) {
        int days = plan.setting(DAYS);
        return stripOfDay(plan.last(task), days) - stripOfDay(plan.first(task), days) + 1;
    }

    private int exitsWith(int days) {
        int count = 0;
        for (int arrow = 0; arrow < plan.arrowCount(); arrow++) {
            int from = plan.from(arrow);
            int to = plan.to(arrow);
            boolean sameStrip = stripOfDay(plan.last(from), days) == stripOfDay(plan.first(to), days);
            if (!sameStrip || bands.bandOf(from) != bands.bandOf(to)) {
                count++;
            }
        }
        return count;
    }

    private int numberOfPlan(int what) {
        switch (what) {
            case 4: return plan.taskCount();
            case 5: return plan.arrowCount();
            default: return plan.setting(what);
        }
    }

    private int numberOfTask(int task, int what) {
        switch (what) {
            case 0: return plan.group(task);
            case 1: return plan.first(task);
            case 2: return plan.length(task);
            case 3: return plan.last(task);
            case 4: return bands.bandOf(task);
            case 5: return bands.rowOf(task);
            default: return partsOf(task);
        }
    }

    private int numberOfSheet(int sheet, int what) {
        switch (what) {
            case 0: return sheets.bandOf(sheet);
            case 1: return sheets.stripOf(sheet);
            case 2: return sheets.partsOn(sheet);
            case 3: return exits.standingOn(sheet);
            default: return exits.drawnOn(sheet);
        }
    }

    private int numberOfPart(int task, int part, int what) {
        int band = bands.bandOf(task);
        int days = plan.setting(DAYS);
        int strip = stripOfDay(plan.first(task), days) + part;
        int begin = Math.max(plan.first(task), strip * days);
        int end = Math.min(plan.last(task), strip * days + days - 1);
        switch (what) {
            case 0: return sheets.numberAt(band, strip);
            case 1: return begin - strip * days;
            case 2: return end - begin + 1;
            case 3: return part == 0 ? NONE : sheets.numberAt(band, strip - 1);
            default: return part == partsOf(task) - 1 ? NONE : sheets.numberAt(band, strip + 1);
        }
    }

    private int numberOfArrow(int arrow, int what) {
        switch (what) {
            case 0: return plan.from(arrow);
            case 1: return plan.to(arrow);
            case 2: return exits.leavesOn(arrow);
            case 3: return exits.arrivesOn(arrow);
            case 4: return exits.exitOf(arrow);
            default: return plan.isLate(arrow) ? 1 : 0;
        }
    }

    /** Numbers in a fixed count of places; every index is looked at here, so that no other place has to. */
    private static final class Numbers {
        private final int[] places;

        Numbers(int size) {
            places = new int[size < 0 ? 0 : size];
        }

        int at(int index) {
            return index >= 0 && index < places.length ? places[index] : NONE;
        }

        void put(int index, int number) {
            if (index >= 0 && index < places.length) {
                places[index] = number;
            }
        }

        void increase(int index) {
            put(index, at(index) + 1);
        }

        void fill(int start, int end, int number) {
            for (int i = start; i >= 0 && i < end && i < places.length; i++) {
                places[i] = number;
            }
        }

        void copy(Numbers other) {
            for (int i = 0; i < places.length && i < other.places.length; i++) {
                places[i] = other.places[i];
            }
        }

        void closeGap(int gap) {
            for (int i = gap; i >= 0 && i < places.length - 1; i++) {
                places[i] = places[i + 1];
            }
        }
    }

    /** What undo saves: the settings, the tasks and the arrows. */
    private static final class Plan {
        private final Numbers settings = new Numbers(SETTINGS);
        private final Numbers groups = new Numbers(MOST_TASKS);
        private final Numbers firsts = new Numbers(MOST_TASKS);
        private final Numbers lengths = new Numbers(MOST_TASKS);
        private final Numbers froms = new Numbers(MOST_ARROWS);
        private final Numbers tos = new Numbers(MOST_ARROWS);
        private int tasks;
        private int arrows;

        Plan() {
            for (int what = 0; what < INITIAL.length; what++) {
                settings.put(what, INITIAL[what]);
            }
        }

        int setting(int what) {
            return settings.at(what);
        }

        void putSetting(int what, int value) {
            settings.put(what, value);
        }

        int taskCount() {
            return tasks;
        }

        int arrowCount() {
            return arrows;
        }

        boolean hasTask(int task) {
            return task >= 0 && task < tasks;
        }

        boolean hasArrow(int arrow) {
            return arrow >= 0 && arrow < arrows;
        }

        int group(int task) {
            return groups.at(task);
        }

        int first(int task) {
            return firsts.at(task);
        }

        int length(int task) {
            return lengths.at(task);
        }

        int last(int task) {
            return firsts.at(task) + lengths.at(task) - 1;
        }

        int from(int arrow) {
            return froms.at(arrow);
        }

        int to(int arrow) {
            return tos.at(arrow);
        }

        boolean isLate(int arrow) {
            return first(to(arrow)) <= last(from(arrow));
        }

        boolean covers(int task, int day) {
            return hasTask(task) && day >= first(task) && day <= last(task);
        }

        int daysOfBars() {
            int days = 0;
            for (int task = 0; task < tasks; task++) {
                days += length(task);
            }
            return days;
        }

        boolean hasArrowBetween(int from, int to) {
            for (int arrow = 0; arrow < arrows; arrow++) {
                if (from(arrow) == from && to(arrow) == to) {
                    return true;
                }
            }
            return false;
        }

        int tellTask(int group, int first, int length) {
            if (tasks >= MOST_TASKS) {
                return NONE;
            }
            groups.put(tasks, group);
            putBar(tasks, first, length);
            tasks++;
            return tasks - 1;
        }

        void putBar(int task, int first, int length) {
            firsts.put(task, first);
            lengths.put(task, length);
        }

        int tellArrow(int from, int to) {
            if (arrows >= MOST_ARROWS) {
                return NONE;
            }
            froms.put(arrows, from);
            tos.put(arrows, to);
            arrows++;
            return arrows - 1;
        }

        void dropArrow(int arrow) {
            if (hasArrow(arrow)) {
                froms.closeGap(arrow);
                tos.closeGap(arrow);
                arrows--;
            }
        }

        int dropTask(int task) {
            if (!hasTask(task)) {
                return 0;
            }
            groups.closeGap(task);
            firsts.closeGap(task);
            lengths.closeGap(task);
            tasks--;
            return dropArrowsOf(task);
        }

        private int dropArrowsOf(int task) {
            int kept = 0;
            for (int arrow = 0; arrow < arrows; arrow++) {
                int from = from(arrow);
                int to = to(arrow);
                if (from != task && to != task) {
                    froms.put(kept, from > task ? from - 1 : from);
                    tos.put(kept, to > task ? to - 1 : to);
                    kept++;
                }
            }
            int gone = arrows - kept;
            arrows = kept;
            return gone;
        }

        void forgetTasksAndArrows() {
            tasks = 0;
            arrows = 0;
        }

        void copyTasksAndArrows(Plan other) {
            groups.copy(other.groups);
            firsts.copy(other.firsts);
            lengths.copy(other.lengths);
            froms.copy(other.froms);
            tos.copy(other.tos);
            tasks = other.tasks;
            arrows = other.arrows;
        }

        void copyAll(Plan other) {
            settings.copy(other.settings);
            copyTasksAndArrows(other);
        }
    }

    /** The states that undo can go back to, in a ring whose oldest one is overwritten. */
    private static final class History {
        private final Plan[] saved = new Plan[MOST_SAVED];
        private int next;
        private int count;

        History() {
            for (int i = 0; i < saved.length; i++) {
                saved[i] = new Plan();
            }
        }

        int count() {
            return count;
        }

        void save(Plan plan) {
            Plan slot = slot(next);
            if (slot != null) {
                slot.copyAll(plan);
                next = next + 1 < MOST_SAVED ? next + 1 : 0;
                count = count < MOST_SAVED ? count + 1 : MOST_SAVED;
            }
        }

        void restore(Plan plan) {
            int newest = next > 0 ? next - 1 : MOST_SAVED - 1;
            Plan slot = slot(newest);
            if (count > 0 && slot != null) {
                plan.copyAll(slot);
                next = newest;
                count--;
            }
        }

        private Plan slot(int index) {
            return index >= 0 && index < saved.length ? saved[index] : null;
        }
    }

    /** Which task or heading is in which row of which band. */
    private static final class Bands {
        private final Numbers contents = new Numbers(MOST_BANDS * MOST_ROWS);
        private final Numbers bandOfTask = new Numbers(MOST_TASKS);
        private final Numbers rowOfTask = new Numbers(MOST_TASKS);
        private final Numbers members = new Numbers(MOST_TASKS);
        private int memberCount;
        private int rows;
        private int count;
        private int free;

        int count() {
            return count;
        }

        int content(int band, int row) {
            return contents.at(band * MOST_ROWS + row);
        }

        int bandOf(int task) {
            return bandOfTask.at(task);
        }

        int rowOf(int task) {
            return rowOfTask.at(task);
        }

        void lay(Plan plan, int rowsOfBand) {
            rows = rowsOfBand;
            count = 0;
            // No band yet is as good as a full one: the first heading begins band 0.
            free = 0;
            for (int group = 0; group < GROUPS; group++) {
                gather(plan, group);
                if (memberCount > 0) {
                    layGroup(group, plan.setting(KEEP) == 1);
                }
            }
        }

        private void gather(Plan plan, int group) {
            memberCount = 0;
            for (int task = 0; task < plan.taskCount(); task++) {
                if (plan.group(task) == group) {
                    insert(plan, task);
                }
            }
        }

        // Only later first days are passed, so that equal ones stay in the order of their numbers.
        private void insert(Plan plan, int task) {
            int place = memberCount;
            while (place > 0 && plan.first(members.at(place - 1)) > plan.first(task)) {
                members.put(place, members.at(place - 1));
                place--;
            }
            members.put(place, task);
            memberCount++;
        }

        private void layGroup(int group, boolean keep) {
            int needed = 1 + memberCount;
            boolean movesAsAWhole = keep && needed > free && needed <= rows;
            if (movesAsAWhole || free < 2) {
                beginBand();
            }
            take(HEADING + group);
            for (int i = 0; i < memberCount; i++) {
                if (free < 1) {
                    beginBand();
                    take(REPEATED_HEADING + group);
                }
                int task = members.at(i);
                bandOfTask.put(task, count - 1);
                rowOfTask.put(task, rows - free);
                take(task);
            }
        }

        private void beginBand() {
            contents.fill(count * MOST_ROWS, (count + 1) * MOST_ROWS, NONE);
            count++;
            free = rows;
        }

        private void take(int content) {
            contents.put((count - 1) * MOST_ROWS + rows - free, content);
            free--;
        }
    }

    /** The printed sheets; a spot stands for a band together with a strip. */
    private static final class Sheets {
        private final Numbers partsOnSpot = new Numbers(MOST_BANDS * MOST_STRIPS);
        private final Numbers sheetOnSpot = new Numbers(MOST_BANDS * MOST_STRIPS);
        private final Numbers bandOfSheet = new Numbers(MOST_SHEETS);
        private final Numbers stripOfSheet = new Numbers(MOST_SHEETS);
        private int count;

        int count() {
            return count;
        }

        int bandOf(int sheet) {
            return bandOfSheet.at(sheet);
        }

        int stripOf(int sheet) {
            return stripOfSheet.at(sheet);
        }

        int partsOn(int sheet) {
            return partsOnSpot.at(spot(bandOf(sheet), stripOf(sheet)));
        }

        int numberAt(int band, int strip) {
            return sheetOnSpot.at(spot(band, strip));
        }

        // A strip beyond the last one must not run into the next band.
        private static int spot(int band, int strip) {
            boolean exists = band >= 0 && band < MOST_BANDS && strip >= 0 && strip < MOST_STRIPS;
            return exists ? band * MOST_STRIPS + strip : NONE;
        }

        void print(Plan plan, Bands bands, int days) {
            partsOnSpot.fill(0, bands.count() * MOST_STRIPS, 0);
            sheetOnSpot.fill(0, bands.count() * MOST_STRIPS, NONE);
            for (int task = 0; task < plan.taskCount(); task++) {
                int lastStrip = stripOfDay(plan.last(task), days);
                for (int strip = stripOfDay(plan.first(task), days); strip <= lastStrip; strip++) {
                    partsOnSpot.increase(spot(bands.bandOf(task), strip));
                }
            }
            count = 0;
            int strips = stripOfDay(LAST_DAY, days) + 1;
            if (plan.setting(ORDER) == 0) {
                numberByBands(bands.count(), strips);
            } else {
                numberByStrips(bands.count(), strips);
            }
        }

        private void numberByBands(int bands, int strips) {
            for (int band = 0; band < bands; band++) {
                for (int strip = 0; strip < strips; strip++) {
                    number(band, strip);
                }
            }
        }

        private void numberByStrips(int bands, int strips) {
            for (int strip = 0; strip < strips; strip++) {
                for (int band = 0; band < bands; band++) {
                    number(band, strip);
                }
            }
        }

        private void number(int band, int strip) {
            int spot = spot(band, strip);
            if (partsOnSpot.at(spot) > 0) {
                sheetOnSpot.put(spot, count);
                bandOfSheet.put(count, band);
                stripOfSheet.put(count, strip);
                count++;
            }
        }
    }

    /** The arrows on the sheets, and the exits of those that leave one. */
    private static final class Exits {
        private final Numbers leaveSheets = new Numbers(MOST_ARROWS);
        private final Numbers arriveSheets = new Numbers(MOST_ARROWS);
        private final Numbers exitOfArrow = new Numbers(MOST_ARROWS);
        private final Numbers arrowOfExit = new Numbers(MOST_ARROWS + 1);
        private final Numbers exitsOfSheet = new Numbers(MOST_SHEETS);
        private final Numbers drawnOfSheet = new Numbers(MOST_SHEETS);
        private int count;

        int count() {
            return count;
        }

        int leavesOn(int arrow) {
            return leaveSheets.at(arrow);
        }

        int arrivesOn(int arrow) {
            return arriveSheets.at(arrow);
        }

        int exitOf(int arrow) {
            return exitOfArrow.at(arrow);
        }

        int arrowBehind(int exit) {
            return arrowOfExit.at(exit);
        }

        int standingOn(int sheet) {
            return exitsOfSheet.at(sheet);
        }

        int drawnOn(int sheet) {
            return drawnOfSheet.at(sheet);
        }

        void draw(Plan plan, Bands bands, Sheets sheets) {
            int days = plan.setting(DAYS);
            exitsOfSheet.fill(0, sheets.count(), 0);
            drawnOfSheet.fill(0, sheets.count(), 0);
            count = 0;
            for (int arrow = 0; arrow < plan.arrowCount(); arrow++) {
                int from = plan.from(arrow);
                int to = plan.to(arrow);
                int leave = sheets.numberAt(bands.bandOf(from), stripOfDay(plan.last(from), days));
                int arrive = sheets.numberAt(bands.bandOf(to), stripOfDay(plan.first(to), days));
                leaveSheets.put(arrow, leave);
                arriveSheets.put(arrow, arrive);
                if (leave == arrive) {
                    drawInside(arrow, leave);
                } else {
                    drawThroughExit(arrow, leave, arrive);
                }
            }
        }

        private void drawInside(int arrow, int sheet) {
            exitOfArrow.put(arrow, NONE);
            drawnOfSheet.increase(sheet);
        }

        private void drawThroughExit(int arrow, int leave, int arrive) {
            count++;
            exitOfArrow.put(arrow, count);
            arrowOfExit.put(count, arrow);
            exitsOfSheet.increase(leave);
            exitsOfSheet.increase(arrive);
        }
    }

    /** Chains of arrows that are not late: these lead to later days only, so that none comes back. */
    private static final class Chains {
        private final Numbers longestTo = new Numbers(MOST_TASKS);

        int longest(Plan plan) {
            longestTo.fill(0, plan.taskCount(), 1);
            boolean grown = true;
            // A round makes each chain right that is one task longer than those of the round before.
            for (int round = 0; grown && round < MOST_TASKS; round++) {
                grown = growOnce(plan);
            }
            int longest = 0;
            for (int task = 0; task < plan.taskCount(); task++) {
                longest = Math.max(longest, longestTo.at(task));
            }
            return longest;
        }

        private boolean growOnce(Plan plan) {
            boolean grown = false;
            for (int arrow = 0; arrow < plan.arrowCount(); arrow++) {
                int length = longestTo.at(plan.from(arrow)) + 1;
                if (!plan.isLate(arrow) && length > longestTo.at(plan.to(arrow))) {
                    longestTo.put(plan.to(arrow), length);
                    grown = true;
                }
            }
            return grown;
        }
    }

    /** The task text and its reading; each reading step answers whether the text is right up to its end. */
    private static final class TaskText {
        private final Numbers bytes = new Numbers(MOST_BYTES);
        private int length;
        private int position;
        private int error;
        private int number;

        int length() {
            return length;
        }

        void add(int value) {
            if (length < MOST_BYTES) {
                bytes.put(length, value);
                length++;
            }
        }

        void empty() {
            length = 0;
        }

        /** Answers the syntax error position, or NONE if the text is right and told holds its tasks and arrows. */
        int read(Plan told) {
            told.forgetTasksAndArrows();
            position = 0;
            error = NONE;
            boolean right = true;
            for (int item = 0; right && position < length && item < MOST_BYTES; item++) {
                right = next() == 't' ? readTask(told) : readArrow(told);
            }
            return error;
        }

        private boolean readTask(Plan told) {
            // Its "t" has been seen.
            position++;
            int group = next() - '0';
            if (group < 0 || group >= GROUPS) {
                return fail(position);
            }
            position++;
            if (!readSign(',') || !readNumber(3, 0, LAST_FIRST_DAY)) {
                return false;
            }
            int first = number;
            if (!readSign(',') || !readNumber(2, 1, LONGEST_BAR) || !readSign(';')) {
                return false;
            }
            told.tellTask(group, first, number);
            return true;
        }

        private boolean readArrow(Plan told) {
            if (!readSign('a') || !readNumber(2, 0, told.taskCount() - 1)) {
                return false;
            }
            int from = number;
            if (!readSign(',')) {
                return false;
            }
            int start = position;
            if (!readNumber(2, 0, told.taskCount() - 1)) {
                return false;
            }
            if (number == from) {
                return fail(start);
            }
            if (!readSign(';')) {
                return false;
            }
            if (!told.hasArrowBetween(from, number)) {
                told.tellArrow(from, number);
            }
            return true;
        }

        private boolean readSign(int sign) {
            if (next() != sign) {
                return fail(position);
            }
            position++;
            return true;
        }

        // The value is looked at behind the last digit only: a digit too many is told before it.
        private boolean readNumber(int mostDigits, int smallest, int greatest) {
            int start = position;
            number = 0;
            while (position < start + mostDigits && nextIsDigit()) {
                number = number * 10 + next() - '0';
                position++;
            }
            if (position == start || nextIsDigit()) {
                return fail(position);
            }
            if (number < smallest || number > greatest) {
                return fail(start);
            }
            return true;
        }

        private boolean nextIsDigit() {
            return next() >= '0' && next() <= '9';
        }

        private int next() {
            return position < length ? bytes.at(position) : NONE;
        }

        private boolean fail(int place) {
            error = place;
            return false;
        }
    }
}
