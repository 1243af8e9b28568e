import java.util.ArrayList;
import java.util.List;
import java.util.function.ToLongFunction;

/**
 * A new object whose calls are told and counted: what the document promises ends
 * with the 512th. What its files hold then is read from others like it.
 */
final class Calls {
    static final int MOST_CALLS = 512;

    private final Checks checks;
    private final LayeredImage image;
    private final int size;
    private final List<ToLongFunction<LayeredImage>> changes = new ArrayList<>();
    private int made;

    Calls(Checks checks, int size) {
        this.checks = checks;
        this.size = size;
        image = new LayeredImage(size);
    }

    /** What a call answered; a boolean counts 1 or 0. */
    record Answer(Checks checks, String call, long got) {
        void is(long due) {
            checks.due(call, got, due);
        }
    }

    Checks checks() {
        return checks;
    }

    /** How many calls more the object may be used for. */
    int left() {
        return MOST_CALLS - made;
    }

    Answer write(int address, int value) {
        return change("write(" + address + ", " + value + ")", x -> x.write(address, value));
    }

    Answer read(int address) {
        return told("read(" + address + ")", image.read(address));
    }

    Answer discard(int block) {
        return change("discard(" + block + ")", x -> x.discard(block));
    }

    Answer snapshot(int name) {
        return change("snapshot(" + name + ")", x -> x.snapshot(name));
    }

    Answer revert(int name) {
        return change("revert(" + name + ")", x -> x.revert(name));
    }

    Answer delete(int name) {
        return change("delete(" + name + ")", x -> x.delete(name));
    }

    Answer readOld(int name, int address) {
        return told("readOld(" + name + ", " + address + ")", image.readOld(name, address));
    }

    Answer overlay() {
        return change("overlay()", x -> x.overlay());
    }

    Answer commit() {
        return change("commit()", x -> x.commit());
    }

    Answer grow(int to) {
        return change("grow(" + to + ")", x -> x.grow(to));
    }

    Answer size() {
        return told("size()", image.size());
    }

    Answer images() {
        return told("images()", image.images());
    }

    Answer used() {
        return told("used()", image.used());
    }

    Answer word(int number, int p) {
        return told("word(" + number + ", " + p + ")", image.word(number, p));
    }

    Answer stage(int p, int a, int b, int c, int d) {
        return change("stage(" + p + ", " + a + ", " + b + ", " + c + ", " + d + ")",
            x -> x.stage(p, a, b, c, d) ? 1 : 0);
    }

    Answer load() {
        return change("load()", x -> x.load());
    }

    private Answer change(String call, ToLongFunction<LayeredImage> change) {
        changes.add(change);
        return told(call, change.applyAsLong(image));
    }

    private Answer told(String call, long got) {
        made++;
        checks.hold("an object is used for 512 calls at most", made <= MOST_CALLS);
        return new Answer(checks, "new(" + size + "), call " + made + ", " + call, got);
    }

    /** The words of a cluster are those given, and 0 behind them. */
    void cluster(int number, int cluster, int... words) {
        for (int j = 0; j < 8; j++) {
            word(number, 8 * cluster + j).is(j < words.length ? words[j] : 0);
        }
    }

    /** All words of a file, from as many objects with the same changes as that asks for. */
    int[] file(int number) {
        int[] words = new int[512];
        int part = Math.max(1, MOST_CALLS - changes.size());
        for (int p = 0; p < 512; p += part) {
            LayeredImage again = new LayeredImage(size);
            for (ToLongFunction<LayeredImage> change : changes) {
                change.applyAsLong(again);
            }
            for (int i = p; i < Math.min(512, p + part); i++) {
                words[i] = again.word(number, i);
            }
        }
        return words;
    }

    /** Puts all of a file on the stage: 128 calls. */
    void stageAll(int[] words) {
        for (int p = 0; p < 128; p++) {
            stage(p, words[4 * p], words[4 * p + 1], words[4 * p + 2], words[4 * p + 3]).is(1);
        }
    }

    /**
     * Fills a new file of size 64 until there is room for just so many clusters (0 .. 37) more:
     * block 0 of each leaf, then block 1 of each, and so on. With no room left the blocks 0 .. 4
     * of each leaf have clusters and block 5 of the leaves 0 .. 4; the last one taken is cluster
     * 63, for block 37; the blocks 6 and 7 of each leaf are absent.
     */
    void fill(int left) {
        for (int i = 0; i < 8; i++) {
            write(64 * i, 1).is(2);
        }
        for (int n = 0; n < 37 - left; n++) {
            write(64 * (n % 8) + 8 * (1 + n / 8), 1).is(1);
        }
    }
}
