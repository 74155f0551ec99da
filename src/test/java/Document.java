import java.io.IOException;
import java.io.UncheckedIOException;
import java.nio.file.Files;
import java.nio.file.Path;

/** ../shared/DOC.md, so that a test can quote the sentence that it stands for. */
final class Document {
    private static final Path PLACE = Path.of("../shared/DOC.md");

    private Document() {
    }

    static String whole() {
        try {
            return Files.readString(PLACE);
        } catch (IOException e) {
            throw new UncheckedIOException(e);
        }
    }

    /** Whether the section of a promise says so; promise 0 is all that stands before the first one. */
    static boolean says(int promise, String quote) {
        for (String section : whole().split("\n## ")) {
            boolean isPromise = section.startsWith("Promise ");
            if (promise == 0 ? !isPromise : section.startsWith("Promise " + promise + ":")) {
                if (section.contains(quote)) {
                    return true;
                }
            }
        }
        return false;
    }
}
