import java.io.IOException;
import java.nio.file.Files;
import java.nio.file.Path;
import java.util.ArrayList;
import java.util.List;
import java.util.regex.Matcher;
import java.util.regex.Pattern;

/**
 * Each sentence of the document, with a test of its own. The second argument
 * is the document: each of its words in 'Terms' and in the promises has to
 * stand in a sentence that has a test.
 */
public final class SentencesTest {
    private static final Pattern SIGNATURE = Pattern.compile("^`[^`]*`: ");

    private SentencesTest() {
    }

    public static void main(String[] args) throws IOException {
        NetSentences.all();
        NetPromises.all();
        BlockSentences.all();
        BlockPromises.all();
        SearchSentences.all();
        SearchPromises.all();
        RefusedSentences.all();
        if (args.length > 1 && Files.exists(Path.of(args[1]))) {
            against(Files.readString(Path.of(args[1])));
        } else {
            System.out.println("SentencesTest: the document was not there to be compared with");
        }
        System.out.println("SentencesTest: " + Sentence.all().size() + " sentences");
        Due.end("SentencesTest");
    }

    private static void against(String document) {
        List<Sentence> parts = partsOf(document);
        Due.due("parts of the document", parts.size(), 29);
        for (Sentence part : parts) {
            StringBuilder rest = new StringBuilder(part.words());
            for (Sentence sentence : Sentence.all()) {
                if (sentence.where().equals(part.where())) {
                    Due.due(part.where() + " says '" + sentence.words() + "'", strike(sentence.words(), part.words(), rest), 1);
                }
            }
            String left = rest.toString().replaceAll("\\s+", " ").trim();
            if (!left.isEmpty()) {
                Due.due(part.where() + ", words without a test, '" + left + "',", 1, 0);
            }
        }
    }

    /** Strikes words that are tested from the rest; 1: they stand in the part. */
    private static int strike(String words, String part, StringBuilder rest) {
        Matcher m = Pattern.compile("(?<![A-Za-z0-9])" + Pattern.quote(words) + "(?![A-Za-z0-9])").matcher(part);
        int found = 0;
        while (m.find()) {
            found = 1;
            for (int i = m.start(); i < m.end(); i++) {
                rest.setCharAt(i, ' ');
            }
        }
        return found;
    }

    /** Terms 1 to 3, Refused, Promise 1 to 25, each with all its words in one line. */
    private static List<Sentence> partsOf(String document) {
        List<Sentence> parts = new ArrayList<>();
        String where = "";
        StringBuilder words = new StringBuilder();
        for (String line : document.split("\n")) {
            String next = headOf(line, where);
            if (!next.equals(where)) {
                if (!where.isEmpty()) {
                    parts.add(new Sentence(where, words.toString().replaceAll("\\s+", " ").trim()));
                }
                where = next;
                words.setLength(0);
            }
            boolean isText = !where.isEmpty() && !line.startsWith("#") && !line.startsWith("```")
                    && !line.startsWith("Ahead of the calls");
            if (isText) {
                words.append(SIGNATURE.matcher(line.replaceFirst("^======== \\d ", "")).replaceFirst("")).append(' ');
            }
        }
        return parts;
    }

    /** The part that a line begins, or the one that goes on. */
    private static String headOf(String line, String where) {
        if (line.startsWith("======== ")) {
            return "Terms " + line.charAt("======== ".length());
        }
        if (line.startsWith("Refused,")) {
            return "Refused";
        }
        Matcher promise = Pattern.compile("^## (Promise \\d+):.*").matcher(line);
        if (promise.matches()) {
            return promise.group(1);
        }
        return line.startsWith("## ") ? "" : where;
    }
}
