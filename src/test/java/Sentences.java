import java.util.ArrayList;
import java.util.List;
import java.util.function.Consumer;

/** Tests in the document's order: a heading, a sentence under it, and the sentence's edges. */
abstract class Sentences {
    static final int BAD = -1;
    static final int FULL = -2;
    static final int MANY = -3;
    static final int TAKEN = -4;
    static final long NONE = 4294967296L;

    static final int MIN = Integer.MIN_VALUE;
    static final int MAX = Integer.MAX_VALUE;

    private final List<Sentence> all = new ArrayList<>();
    private String heading;
    private String words;

    List<Sentence> all() {
        return all;
    }

    final void under(String newHeading) {
        heading = newHeading;
    }

    final void says(String newWords) {
        words = newWords;
    }

    final Sentence test(String edge, Consumer<Checks> test) {
        Sentence sentence = new Sentence(heading, words, edge, test);
        all.add(sentence);
        return sentence;
    }

    final Sentence on(String edge, int size, Consumer<Calls> calls) {
        return test(edge, checks -> calls.accept(new Calls(checks, size)));
    }

    /** All files after some calls, and after a refused one behind them, are the same. */
    final Sentence nothingChanges(String edge, int size, Consumer<Calls> calls,
            Consumer<Calls> refused) {
        return test(edge, checks -> {
            for (int image = 0; image < 3; image++) {
                int[] due = file(checks, size, image, calls);
                int[] got = file(checks, size, image, calls.andThen(refused));
                checks.same("file " + image + " after it", got, due);
            }
        });
    }

    /** The words of a file after some calls. */
    static int[] file(Checks checks, int size, int image, Consumer<Calls> calls) {
        Calls x = new Calls(checks, size);
        calls.accept(x);
        return x.file(image);
    }
}
