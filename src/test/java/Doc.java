import java.io.IOException;
import java.nio.charset.StandardCharsets;
import java.nio.file.Files;
import java.nio.file.Path;

/** The document, where it can be found; empty elsewhere. */
final class Doc {
    private static final String TEXT = read();

    private Doc() {
    }

    private static String read() {
        try {
            return Files.readString(Path.of("../shared/DOC.md"), StandardCharsets.UTF_8);
        } catch (IOException e) {
            System.out.println("no document at ../shared/DOC.md: it is not looked up");
            return "";
        }
    }

    static boolean isThere() {
        return !TEXT.isEmpty();
    }

    static String text() {
        return TEXT;
    }

    /** From the first of two headings up to the other one. */
    static String between(String first, String behind) {
        int from = TEXT.indexOf(first);
        int to = TEXT.indexOf(behind);
        return from < 0 || to < from ? "" : TEXT.substring(from, to);
    }
}
