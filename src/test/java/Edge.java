import java.util.Set;
import java.util.TreeSet;

/** Names the sentence of the document that the answers looked at next are about, and looks it up there. */
final class Edge {
    private static final int PROMISES = 34;
    private static final Set<Integer> MET = new TreeSet<>();

    private Edge() {
    }

    private static String plain(String text) {
        return text.replaceAll("\\s+", " ");
    }

    /** The sentence must stand in the terms, or under the promise of that number. */
    static void of(int promise, String sentence) {
        Due.about("promise " + promise + ", \"" + sentence + "\"");
        Due.holds("it stands in the document", stands(promise, sentence));
        MET.add(promise);
    }

    private static boolean stands(int promise, String sentence) {
        return !Doc.isThere() || plain(terms() + section(promise)).contains(plain(sentence));
    }

    private static String terms() {
        return Doc.between("## Terms", "## Promise 1:");
    }

    private static String section(int promise) {
        String behind = promise < PROMISES ? "## Promise " + (promise + 1) + ":" : "## Not promised";
        return Doc.between("## Promise " + promise + ":", behind);
    }

    static void allPromisesMet() {
        Due.about("");
        for (int promise = 1; promise <= PROMISES; promise++) {
            Due.holds("promise " + promise + " has a test of an edge", MET.contains(promise));
        }
    }
}
