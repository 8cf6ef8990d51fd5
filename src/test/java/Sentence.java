import java.util.ArrayList;
import java.util.List;

/** A sentence of the document that has a test of its own, in the document's words. */
record Sentence(String where, String words) {
    private static final List<Sentence> ALL = new ArrayList<>();

    static List<Sentence> all() {
        return ALL;
    }

    /** Where: "Terms 1" .. "Terms 3", "Refused", "Promise 1" .. "Promise 25", or another part. */
    static void holds(String where, String words, Runnable test) {
        ALL.add(new Sentence(where, words));
        Due.about(where + ", '" + words + "'");
        int before = Due.lookedSoFar();
        try {
            test.run();
        } catch (RuntimeException thrown) {
            Due.due("a call that threw " + thrown, 1, 0);
        }
        Due.due("answers were looked at", Due.lookedSoFar() > before ? 1 : 0, 1);
        Due.about("");
    }
}
