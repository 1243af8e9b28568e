import java.io.IOException;
import java.nio.charset.StandardCharsets;
import java.nio.file.Path;
import java.util.ArrayList;
import java.util.Arrays;
import java.util.HashSet;
import java.util.List;
import java.util.Map;
import java.util.Set;
import java.util.TreeMap;

/**
 * Each sentence of the document at its edges, by tests that name it; and that
 * the document has these sentences, and no others from the terms on.
 */
public final class SentenceTest {
    private static final Checks CHECKS = new Checks("SentenceTest");

    /** All tests, in the document's order. */
    static List<Sentence> sentences() {
        List<Sentence> all = new ArrayList<>();
        all.addAll(new TermsSentences().all());
        all.addAll(new TakingSentences().all());
        all.addAll(new WriteSentences().all());
        all.addAll(new SnapshotSentences().all());
        all.addAll(new ChainSentences().all());
        all.addAll(new LoadSentences().all());
        return all;
    }

    /** For BrokenTest, which has its own copy of this class for each broken program. */
    static boolean holds(int number) {
        return sentences().get(number).wrong(false) == 0;
    }

    public static void main(String[] args) throws IOException {
        Set<String> names = new HashSet<>();
        for (Sentence sentence : sentences()) {
            CHECKS.due(sentence.name(), sentence.wrong(true), 0);
            CHECKS.hold("one test alone is named " + sentence.name(), names.add(sentence.name()));
        }
        compare(document(Path.of(args[1])));
        CHECKS.end();
    }

    /** The texts under the document's headings, each in one line; a promise's name is its heading. */
    private static Map<String, String> document(Path path) throws IOException {
        String text = new String(java.nio.file.Files.readAllBytes(path), StandardCharsets.UTF_8);
        Map<String, String> parts = new TreeMap<>();
        for (String part : text.split("\n## ")) {
            String heading = part.substring(0, part.indexOf('\n'));
            String name = heading.startsWith("Promise") ? heading.replaceAll(":.*", "") : heading;
            String words = part.substring(heading.length()).replaceAll("\\s+", " ").trim();
            parts.put(name, words.replaceAll("^`[^`]*`: ", ""));
        }
        return parts;
    }

    private static void compare(Map<String, String> parts) {
        Map<String, char[]> left = new TreeMap<>();
        parts.forEach((name, words) -> left.put(name, words.toCharArray()));
        for (Sentence sentence : sentences()) {
            String words = parts.getOrDefault(sentence.heading, "");
            int at = words.indexOf(sentence.words);
            CHECKS.hold("the document says " + sentence.name(), at >= 0);
            if (at >= 0) {
                Arrays.fill(left.get(sentence.heading), at, at + sentence.words.length(), ' ');
            }
        }
        left.forEach((name, words) -> {
            if (name.equals("Terms") || name.startsWith("Promise")) {
                CHECKS.hold("there is a test of " + name + ": " + new String(words).trim(),
                    new String(words).isBlank());
            }
        });
    }
}
