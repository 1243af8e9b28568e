import java.util.ArrayList;
import java.util.List;
import java.util.function.Consumer;

/** Tests in the document's order: a heading, a sentence under it, and the sentence's edges. */
abstract class Sentences {
    static final int BAD = -1;
    static final int FULL = -2;
    static final int MANY = -3;
    static final int TAKEN = -4;
    static final long NONE = 4294967296L;

    static final int MIN = Integer.MIN_VALUE;
    static final int MAX = Integer.MAX_VALUE;

    private final List<Sentence> all = new ArrayList<>();
    private String heading;
    private String words;

    List<Sentence> all() {
        return all;
    }

    final void under(String newHeading) {
        heading = newHeading;
    }

    final void says(String newWords) {
        words = newWords;
    }

    final Sentence test(String edge, Consumer<Checks> test) {
        Sentence sentence = new Sentence(heading, words, edge, test);
        all.add(sentence);
        return sentence;
    }

    final Sentence on(String edge, int size, Consumer<Calls> calls) {
        return test(edge, checks -> calls.accept(new Calls(checks, size)));
    }

    /** All files after some calls, and after a refused one behind them, are the same. */
    final Sentence nothingChanges(String edge, int size, Consumer<Calls> calls,
            Consumer<Calls> refused) {
        return test(edge, checks -> {
            for (int image = 0; image < 3; image++) {
                int[] due = file(checks, size, image, calls);
                int[] got = file(checks, size, image, calls.andThen(refused));
                for (int p = 0; p < 512; p++) {
                    checks.due("word(" + image + ", " + p + ") after it", got[p], due[p]);
                }
            }
        });
    }

    /** The words of a file after some calls, a quarter of them from each of four objects. */
    static int[] file(Checks checks, int size, int image, Consumer<Calls> calls) {
        int[] words = new int[512];
        for (int p = 0; p < 512; p += 128) {
            Calls x = new Calls(checks, size);
            calls.accept(x);
            for (int i = p; i < p + 128; i++) {
                words[i] = (int) x.word(image, i).got();
            }
        }
        return words;
    }
}
