import java.util.ArrayList;
import java.util.List;
import java.util.function.Consumer;

/** A test of one sentence of the document, and programs that break the sentence. */
final class Sentence {
    /** Behind some words of the program's text, others are put for the first ones that are so. */
    record Breaking(String behind, String words, String others) {
        /** The program that is broken so; null when its text has no such words any more. */
        String in(String program) {
            int from = program.indexOf(behind);
            int at = from < 0 ? -1 : program.indexOf(words, from);
            return at < 0 ? null
                : program.substring(0, at) + others + program.substring(at + words.length());
        }
    }

    final String heading;
    final String words;
    private final String edge;
    private final Consumer<Checks> test;
    private final List<Breaking> breakings = new ArrayList<>();

    Sentence(String heading, String words, String edge, Consumer<Checks> test) {
        this.heading = heading;
        this.words = words;
        this.edge = edge;
        this.test = test;
    }

    Sentence broken(String behind, String words, String others) {
        breakings.add(new Breaking(behind, words, others));
        return this;
    }

    List<Breaking> breakings() {
        return breakings;
    }

    String name() {
        return heading + ", " + edge + ": \"" + words + "\"";
    }

    /** How many of its checks are wrong; a throw counts as one. */
    int wrong(boolean aloud) {
        Checks checks = new Checks(name(), aloud);
        try {
            test.accept(checks);
        } catch (RuntimeException thrown) {
            checks.hold("it ends without " + thrown, false);
        }
        return checks.wrong();
    }
}
