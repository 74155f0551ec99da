import java.util.ArrayDeque;
import java.util.ArrayList;
import java.util.Comparator;
import java.util.Deque;
import java.util.List;
import java.util.TreeMap;
import java.util.stream.Collectors;
import java.util.stream.IntStream;

/** The document once more, told as directly as Java's library allows; everything is found anew at each call. */
final class PlanModel {
    record Task(int group, int first, int length) {
        int last() {
            return first + length - 1;
        }
    }

    record Arrow(int from, int to) {
    }

    record State(List<Integer> settings, List<Task> tasks, List<Arrow> arrows) {
    }

    record Spot(int band, int strip) {
    }

    private static final int[][] RANGES = {{3, 20}, {5, 60}, {0, 1}, {0, 1}};

    private State now = new State(List.of(8, 20, 1, 0), List.of(), List.of());
    private final Deque<State> saved = new ArrayDeque<>();
    private final StringBuilder text = new StringBuilder();
    // What was found for the state that stands now: the model runs take long without it.
    private State foundFor = null;
    private List<List<Integer>> foundBands = List.of();
    private List<Spot> foundSheets = List.of();

    private void become(State next) {
        saved.addLast(now);
        if (saved.size() > 4) {
            saved.removeFirst();
        }
        now = next;
    }

    private static void argument(boolean right) {
        if (!right) {
            throw new IllegalArgumentException();
        }
    }

    private static void index(int index, int end) {
        if (index < 0 || index >= end) {
            throw new IndexOutOfBoundsException();
        }
    }

    private static void state(boolean right) {
        if (!right) {
            throw new IllegalStateException();
        }
    }

    private static boolean in(int value, int[] range) {
        return range[0] <= value && value <= range[1];
    }

    private static <T> List<T> with(List<T> list, T element) {
        List<T> copy = new ArrayList<>(list);
        copy.add(element);
        return copy;
    }

    private static <T> List<T> with(List<T> list, int index, T element) {
        List<T> copy = new ArrayList<>(list);
        copy.set(index, element);
        return copy;
    }

    private static <T> List<T> without(List<T> list, int index) {
        List<T> copy = new ArrayList<>(list);
        copy.remove(index);
        return copy;
    }

    // ---- plan

    int set(int what, int value) {
        argument(what >= 0 && what < 4 && in(value, RANGES[what]));
        int previous = now.settings.get(what);
        become(new State(with(now.settings, what, value), now.tasks, now.arrows));
        return previous;
    }

    int value(int what) {
        argument(what >= 0 && what < 6);
        return what < 4 ? now.settings.get(what) : what == 4 ? now.tasks.size() : now.arrows.size();
    }

    int addTask(int group, int first, int length) {
        argument(group >= 0 && group <= 5 && first >= 0 && first <= 199 && length >= 1 && length <= 60);
        state(now.tasks.size() < 24);
        become(new State(now.settings, with(now.tasks, new Task(group, first, length)), now.arrows));
        return now.tasks.size() - 1;
    }

    int move(int task, int first, int length) {
        index(task, now.tasks.size());
        argument(first >= 0 && first <= 199 && length >= 1 && length <= 60);
        Task old = now.tasks.get(task);
        become(new State(now.settings, with(now.tasks, task, new Task(old.group, first, length)), now.arrows));
        return old.first;
    }

    int removeTask(int task) {
        index(task, now.tasks.size());
        List<Arrow> left = now.arrows.stream().filter(a -> a.from != task && a.to != task)
            .map(a -> new Arrow(a.from - (a.from > task ? 1 : 0), a.to - (a.to > task ? 1 : 0)))
            .collect(Collectors.toList());
        int gone = now.arrows.size() - left.size();
        become(new State(now.settings, without(now.tasks, task), left));
        return gone;
    }

    int addArrow(int from, int to) {
        index(from, now.tasks.size());
        index(to, now.tasks.size());
        argument(from != to);
        state(!now.arrows.contains(new Arrow(from, to)) && now.arrows.size() < 30);
        become(new State(now.settings, now.tasks, with(now.arrows, new Arrow(from, to))));
        return now.arrows.size() - 1;
    }

    int removeArrow(int arrow) {
        index(arrow, now.arrows.size());
        become(new State(now.settings, now.tasks, without(now.arrows, arrow)));
        return now.arrows.size();
    }

    int task(int task, int what) {
        index(task, now.tasks.size());
        argument(what >= 0 && what <= 6);
        Task t = now.tasks.get(task);
        int[] place = placeOf(layout(), task);
        int days = now.settings.get(1);
        return new int[] {t.group, t.first, t.length, t.last(), place[0], place[1], t.last() / days - t.first / days + 1}[what];
    }

    // ---- sheets

    private List<List<Integer>> layout() {
        find();
        return foundBands;
    }

    private List<Spot> printed() {
        find();
        return foundSheets;
    }

    private void find() {
        if (foundFor != now) {
            foundBands = layout(now.settings.get(0));
            foundSheets = printed(foundBands, now.settings.get(1));
            foundFor = now;
        }
    }

    /** The bands, each the list of its rows that are not free. */
    private List<List<Integer>> layout(int rows) {
        List<List<Integer>> bands = new ArrayList<>();
        TreeMap<Integer, List<Integer>> groups = new TreeMap<>();
        for (int task = 0; task < now.tasks.size(); task++) {
            groups.computeIfAbsent(now.tasks.get(task).group, g -> new ArrayList<>()).add(task);
        }
        groups.forEach((group, members) -> {
            members.sort(Comparator.<Integer>comparingInt(t -> now.tasks.get(t).first).thenComparingInt(t -> t));
            boolean begin = bands.isEmpty();
            if (!begin) {
                int free = rows - bands.get(bands.size() - 1).size();
                boolean hasRoom = members.size() + 1 <= free;
                boolean wouldHaveRoom = members.size() + 1 <= rows;
                begin = now.settings.get(2) == 1 && !hasRoom && wouldHaveRoom || free < 2;
            }
            if (begin) {
                bands.add(new ArrayList<>());
            }
            bands.get(bands.size() - 1).add(100 + group);
            for (int task : members) {
                if (bands.get(bands.size() - 1).size() == rows) {
                    bands.add(new ArrayList<>(List.of(200 + group)));
                }
                bands.get(bands.size() - 1).add(task);
            }
        });
        return bands;
    }

    private static int[] placeOf(List<List<Integer>> bands, int task) {
        for (int band = 0; band < bands.size(); band++) {
            int row = bands.get(band).indexOf(task);
            if (row >= 0) {
                return new int[] {band, row};
            }
        }
        throw new AssertionError("a task without a row");
    }

    private List<Spot> printed(List<List<Integer>> bands, int days) {
        Comparator<Spot> byBand = Comparator.comparingInt(Spot::band);
        Comparator<Spot> byStrip = Comparator.comparingInt(Spot::strip);
        return IntStream.range(0, now.tasks.size()).boxed()
            .flatMap(t -> IntStream.rangeClosed(now.tasks.get(t).first, now.tasks.get(t).last())
                .mapToObj(day -> new Spot(placeOf(bands, t)[0], day / days)))
            .distinct()
            .sorted(now.settings.get(3) == 0 ? byBand.thenComparing(byStrip) : byStrip.thenComparing(byBand))
            .collect(Collectors.toList());
    }

    int bands() {
        return layout().size();
    }

    int row(int band, int row) {
        index(band, bands());
        index(row, now.settings.get(0));
        List<Integer> contents = layout().get(band);
        return row < contents.size() ? contents.get(row) : -1;
    }

    int sheets() {
        return printed().size();
    }

    int sheet(int sheet, int what) {
        List<Spot> printed = printed();
        index(sheet, printed.size());
        argument(what >= 0 && what <= 4);
        Spot spot = printed.get(sheet);
        switch (what) {
            case 0: return spot.band;
            case 1: return spot.strip;
            case 2:
                List<List<Integer>> bands = layout();
                int days = now.settings.get(1);
                return (int) bands.get(spot.band).stream().filter(c -> c < 100)
                    .filter(t -> now.tasks.get(t).first / days <= spot.strip && spot.strip <= now.tasks.get(t).last() / days)
                    .count();
            case 3:
                return (int) ends().stream().filter(e -> e[0] != e[1] && (e[0] == sheet || e[1] == sheet)).count();
            default:
                return (int) ends().stream().filter(e -> e[0] == sheet && e[1] == sheet).count();
        }
    }

    /** For each arrow the sheets on which it leaves and arrives. */
    private List<int[]> ends() {
        List<List<Integer>> bands = layout();
        List<Spot> printed = printed();
        int days = now.settings.get(1);
        return now.arrows.stream().map(a -> new int[] {
            printed.indexOf(new Spot(placeOf(bands, a.from)[0], now.tasks.get(a.from).last() / days)),
            printed.indexOf(new Spot(placeOf(bands, a.to)[0], now.tasks.get(a.to).first / days))})
            .collect(Collectors.toList());
    }

    int sheetAt(int band, int strip) {
        index(band, bands());
        argument(strip >= 0);
        return printed().indexOf(new Spot(band, strip));
    }

    int part(int task, int part, int what) {
        index(task, now.tasks.size());
        int days = now.settings.get(1);
        Task t = now.tasks.get(task);
        List<List<Integer>> daysOfParts = new ArrayList<>(IntStream.rangeClosed(t.first, t.last()).boxed()
            .collect(Collectors.groupingBy(day -> day / days, TreeMap::new, Collectors.toList())).values());
        index(part, daysOfParts.size());
        argument(what >= 0 && what <= 4);
        List<Integer> own = daysOfParts.get(part);
        int band = placeOf(layout(), task)[0];
        int strip = own.get(0) / days;
        switch (what) {
            case 0: return sheetAt(band, strip);
            case 1: return own.get(0) % days;
            case 2: return own.size();
            case 3: return part == 0 ? -1 : sheetAt(band, strip - 1);
            default: return part == daysOfParts.size() - 1 ? -1 : sheetAt(band, strip + 1);
        }
    }

    private boolean late(Arrow a) {
        return !(now.tasks.get(a.to).first > now.tasks.get(a.from).last());
    }

    private List<Integer> arrowsWithExit() {
        List<int[]> ends = ends();
        return IntStream.range(0, ends.size()).filter(a -> ends.get(a)[0] != ends.get(a)[1]).boxed()
            .collect(Collectors.toList());
    }

    int arrow(int arrow, int what) {
        index(arrow, now.arrows.size());
        argument(what >= 0 && what <= 5);
        Arrow a = now.arrows.get(arrow);
        switch (what) {
            case 0: return a.from;
            case 1: return a.to;
            case 2: return ends().get(arrow)[0];
            case 3: return ends().get(arrow)[1];
            case 4: return arrowsWithExit().contains(arrow) ? arrowsWithExit().indexOf(arrow) + 1 : -1;
            default: return late(a) ? 1 : 0;
        }
    }

    int arrowOf(int exit) {
        List<Integer> exits = arrowsWithExit();
        if (exit < 1 || exit > exits.size()) {
            throw new IndexOutOfBoundsException();
        }
        return exits.get(exit - 1);
    }

    int taskAt(int sheet, int row, int place) {
        List<Spot> printed = printed();
        int days = now.settings.get(1);
        index(sheet, printed.size());
        index(row, now.settings.get(0));
        index(place, days);
        int content = row(printed.get(sheet).band, row);
        if (content < 0 || content >= 100) {
            return -1;
        }
        Task t = now.tasks.get(content);
        for (int day = t.first; day <= t.last(); day++) {
            if (day / days == printed.get(sheet).strip && day % days == place) {
                return content;
            }
        }
        return -1;
    }

    double covered() {
        int sheets = sheets();
        int days = now.tasks.stream().mapToInt(Task::length).sum();
        return sheets == 0 ? 0.0 : (double) days / (double) (now.settings.get(0) * now.settings.get(1) * sheets);
    }

    // ---- what if

    int sheetsWith(int rows, int days) {
        argument(in(rows, RANGES[0]) && in(days, RANGES[1]));
        return printed(layout(rows), days).size();
    }

    int fewestExits() {
        State kept = now;
        int best = 0;
        int fewest = Integer.MAX_VALUE;
        for (int days = 60; days >= 5; days--) {
            now = new State(with(kept.settings, 1, days), kept.tasks, kept.arrows);
            int exits = arrowsWithExit().size();
            if (exits <= fewest) {
                fewest = exits;
                best = days;
            }
        }
        now = kept;
        return best;
    }

    int delay(int task) {
        index(task, now.tasks.size());
        for (int days = 0; ; days++) {
            int first = now.tasks.get(task).first + days;
            if (now.arrows.stream().filter(a -> a.to == task).allMatch(a -> first > now.tasks.get(a.from).last())) {
                return days;
            }
        }
    }

    int longestChain() {
        int[] known = new int[now.tasks.size()];
        return IntStream.range(0, now.tasks.size()).map(task -> chainFrom(task, known)).max().orElse(0);
    }

    private int chainFrom(int task, int[] known) {
        if (known[task] == 0) {
            known[task] = 1 + now.arrows.stream().filter(a -> a.from == task && !late(a))
                .mapToInt(a -> chainFrom(a.to, known)).max().orElse(0);
        }
        return known[task];
    }

    // ---- text

    int append(int value) {
        argument(value >= 0 && value <= 127);
        state(text.length() < 150);
        text.append((char) value);
        return text.length();
    }

    int clearText() {
        int length = text.length();
        text.setLength(0);
        return length;
    }

    private enum Place { ITEM, GROUP, BEHIND_GROUP, FIRST, LENGTH, FROM, TO }

    /** Reads byte for byte, the end of the text as a byte that stands nowhere but between items. */
    int parse() {
        List<Task> tasks = new ArrayList<>();
        List<Arrow> arrows = new ArrayList<>();
        Place place = Place.ITEM;
        String digits = "";
        int group = 0;
        int earlier = 0;
        for (int i = 0; i <= text.length(); i++) {
            char c = i < text.length() ? text.charAt(i) : '\uffff';
            boolean digit = c >= '0' && c <= '9';
            if (place == Place.ITEM) {
                if (i == text.length()) {
                    become(new State(now.settings, tasks, arrows));
                    return tasks.size();
                }
                if (c != 't' && c != 'a') {
                    return -10 - i;
                }
                place = c == 't' ? Place.GROUP : Place.FROM;
                digits = "";
            } else if (place == Place.GROUP) {
                if (c < '0' || c > '5') {
                    return -10 - i;
                }
                group = c - '0';
                place = Place.BEHIND_GROUP;
            } else if (place == Place.BEHIND_GROUP) {
                if (c != ',') {
                    return -10 - i;
                }
                place = Place.FIRST;
                digits = "";
            } else if (digit) {
                if (digits.length() == (place == Place.FIRST ? 3 : 2)) {
                    return -10 - i;
                }
                digits += c;
            } else {
                if (digits.isEmpty()) {
                    return -10 - i;
                }
                int number = Integer.parseInt(digits);
                boolean right = place == Place.FIRST ? number <= 199
                    : place == Place.LENGTH ? number >= 1 && number <= 60
                    : number < tasks.size() && (place == Place.FROM || number != earlier);
                if (!right) {
                    return -10 - (i - digits.length());
                }
                boolean ends = place == Place.LENGTH || place == Place.TO;
                if (c != (ends ? ';' : ',')) {
                    return -10 - i;
                }
                if (place == Place.LENGTH) {
                    tasks.add(new Task(group, earlier, number));
                }
                if (place == Place.TO && !arrows.contains(new Arrow(earlier, number))) {
                    arrows.add(new Arrow(earlier, number));
                }
                earlier = number;
                digits = "";
                place = ends ? Place.ITEM : place == Place.FIRST ? Place.LENGTH : Place.TO;
            }
        }
        return -10 - text.length();
    }

    // ---- state

    int undo() {
        state(!saved.isEmpty());
        now = saved.removeLast();
        return saved.size();
    }

    long digest() {
        List<Integer> values = new ArrayList<>();
        values.add(text.length());
        for (int what = 0; what <= 5; what++) {
            values.add(value(what));
        }
        for (int task = 0; task < now.tasks.size(); task++) {
            for (int what = 0; what <= 6; what++) {
                values.add(task(task, what));
            }
        }
        values.add(bands());
        for (int band = 0; band < bands(); band++) {
            for (int row = 0; row < now.settings.get(0); row++) {
                values.add(row(band, row));
            }
        }
        values.add(sheets());
        for (int sheet = 0; sheet < sheets(); sheet++) {
            for (int what = 0; what <= 4; what++) {
                values.add(sheet(sheet, what));
            }
        }
        for (int arrow = 0; arrow < now.arrows.size(); arrow++) {
            for (int what = 0; what <= 5; what++) {
                values.add(arrow(arrow, what));
            }
        }
        values.add(longestChain());
        values.add(saved.size());
        long h = 3259;
        for (int v : values) {
            h = 31 * h + v;
        }
        return h;
    }
}
