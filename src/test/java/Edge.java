import java.io.IOException;
import java.nio.charset.StandardCharsets;
import java.nio.file.Files;
import java.nio.file.Path;
import java.util.Set;
import java.util.TreeSet;

/** Names the sentence of the document that the answers looked at next are about, and looks it up there. */
final class Edge {
    private static final int PROMISES = 34;
    private static final String DOC = read();
    private static final Set<Integer> MET = new TreeSet<>();

    private Edge() {
    }

    private static String read() {
        try {
            return plain(Files.readString(Path.of("../shared/DOC.md"), StandardCharsets.UTF_8));
        } catch (IOException e) {
            System.out.println("no document at ../shared/DOC.md: its sentences are not looked up");
            return "";
        }
    }

    private static String plain(String text) {
        return text.replaceAll("\\s+", " ");
    }

    /** The sentence must stand in the terms, or under the promise of that number. */
    static void of(int promise, String sentence) {
        Due.about("promise " + promise + ", \"" + sentence + "\"");
        Due.holds("it stands in the document", DOC.isEmpty() || (terms() + section(promise)).contains(plain(sentence)));
        MET.add(promise);
    }

    private static String terms() {
        return between("## Terms", "## Promise 1:");
    }

    private static String section(int promise) {
        String behind = promise < PROMISES ? "## Promise " + (promise + 1) + ":" : "## Not promised";
        return between("## Promise " + promise + ":", behind);
    }

    private static String between(String first, String behind) {
        int from = DOC.indexOf(first);
        int to = DOC.indexOf(behind);
        return from < 0 || to < from ? "" : DOC.substring(from, to);
    }

    static void allPromisesMet() {
        Due.about("");
        for (int promise = 1; promise <= PROMISES; promise++) {
            Due.holds("promise " + promise + " has a test of an edge", MET.contains(promise));
        }
    }
}
