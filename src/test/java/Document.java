import java.io.IOException;
import java.io.UncheckedIOException;
import java.nio.file.Files;
import java.nio.file.Path;
import java.util.ArrayList;
import java.util.List;
import java.util.TreeSet;

/** ../shared/DOC.md, so that a test can quote the sentence that it stands for, and no sentence is left without a test. */
final class Document {
    private static final Path PLACE = Path.of("../shared/DOC.md");
    private static final int PROMISES = 28;

    /** What stands in the promises and in the description, but promises nothing by itself. */
    private static final List<String> TITLES = List.of("Tasks.", "Settings.", "Bands.", "Sheets.", "Arrows.", "Task text.",
        "Undo.", "Exceptions.", "The constants:", "Returns that value.",
        "The constructor and the methods follow, a promise each: the signature, then what it does.");

    private static final TreeSet<String> QUOTED = new TreeSet<>();

    private Document() {
    }

    static String whole() {
        try {
            return Files.readString(PLACE);
        } catch (IOException e) {
            throw new UncheckedIOException(e);
        }
    }

    private static boolean isOf(String section, int promise) {
        return promise == 0 ? !section.startsWith("Promise ") : section.startsWith("Promise " + promise + ":");
    }

    /** Whether the section of a promise says so; promise 0 is all that stands in no promise. */
    static boolean says(int promise, String quote) {
        for (String section : whole().split("\n## ")) {
            if (isOf(section, promise) && section.contains(quote)) {
                return true;
            }
        }
        return false;
    }

    static void quote(int promise, String quote) {
        QUOTED.add(promise + " " + quote);
    }

    /** The sentences of the promises and of the description from which no test has quoted anything. */
    static List<String> unquoted() {
        List<String> left = new ArrayList<>();
        for (String section : whole().split("\n## ")) {
            for (int promise = 0; promise <= PROMISES; promise++) {
                boolean promises = promise > 0 || section.startsWith("Description\n");
                if (isOf(section, promise) && promises) {
                    addUnquoted(promise, section.substring(section.indexOf('\n')), left);
                }
            }
        }
        return left;
    }

    private static void addUnquoted(int promise, String section, List<String> left) {
        boolean[] quoted = new boolean[section.length()];
        for (String quote : QUOTED) {
            if (quote.startsWith(promise + " ")) {
                mark(section, quote.substring(quote.indexOf(' ') + 1), quoted);
            }
        }
        int start = 0;
        for (int i = 0; i < section.length(); i++) {
            boolean atLineEnd = i + 1 == section.length() || section.charAt(i + 1) == '\n';
            if (atLineEnd || section.startsWith(". ", i)) {
                String sentence = section.substring(start, i + 1).strip();
                // The signatures are looked at in RulesOfTheLanguage; "---- plan" and its like are titles.
                boolean isTitle = sentence.isEmpty() || sentence.startsWith("`") && promise > 0 || sentence.startsWith("----")
                    || TITLES.contains(sentence);
                if (!isTitle && !anyOf(quoted, start, i)) {
                    left.add(promise + ": " + sentence);
                }
                start = i + 1;
            }
        }
    }

    private static void mark(String section, String quote, boolean[] quoted) {
        for (int at = section.indexOf(quote); at >= 0; at = section.indexOf(quote, at + 1)) {
            for (int i = at; i < at + quote.length(); i++) {
                quoted[i] = true;
            }
        }
    }

    private static boolean anyOf(boolean[] quoted, int start, int last) {
        for (int i = start; i <= last; i++) {
            if (quoted[i]) {
                return true;
            }
        }
        return false;
    }
}
