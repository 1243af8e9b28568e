/** A new object whose calls are told and counted: no more than 512 of them are promised. */
final class Calls {
    private static final int MOST_CALLS = 512;

    private final Checks checks;
    private final LayeredImage image;
    private final int size;
    private int made;

    Calls(Checks checks, int size) {
        this.checks = checks;
        this.size = size;
        image = new LayeredImage(size);
    }

    /** What a call answered; a boolean counts 1 or 0. */
    record Answer(Checks checks, String call, long got) {
        void is(long due) {
            checks.due(call, got, due);
        }
    }

    Checks checks() {
        return checks;
    }

    Answer write(int address, int value) {
        return told("write(" + address + ", " + value + ")", image.write(address, value));
    }

    Answer read(int address) {
        return told("read(" + address + ")", image.read(address));
    }

    Answer discard(int block) {
        return told("discard(" + block + ")", image.discard(block));
    }

    Answer snapshot(int name) {
        return told("snapshot(" + name + ")", image.snapshot(name));
    }

    Answer revert(int name) {
        return told("revert(" + name + ")", image.revert(name));
    }

    Answer delete(int name) {
        return told("delete(" + name + ")", image.delete(name));
    }

    Answer readOld(int name, int address) {
        return told("readOld(" + name + ", " + address + ")", image.readOld(name, address));
    }

    Answer overlay() {
        return told("overlay()", image.overlay());
    }

    Answer commit() {
        return told("commit()", image.commit());
    }

    Answer grow(int to) {
        return told("grow(" + to + ")", image.grow(to));
    }

    Answer size() {
        return told("size()", image.size());
    }

    Answer images() {
        return told("images()", image.images());
    }

    Answer used() {
        return told("used()", image.used());
    }

    Answer word(int number, int p) {
        return told("word(" + number + ", " + p + ")", image.word(number, p));
    }

    Answer stage(int p, int a, int b, int c, int d) {
        return told("stage(" + p + ", " + a + ", " + b + ", " + c + ", " + d + ")",
            image.stage(p, a, b, c, d) ? 1 : 0);
    }

    Answer load() {
        return told("load()", image.load());
    }

    private Answer told(String call, long got) {
        made++;
        checks.hold("an object is used for 512 calls at most", made <= MOST_CALLS);
        return new Answer(checks, "new(" + size + "), call " + made + ", " + call, got);
    }

    /** The words of a cluster are those given, and 0 behind them. */
    void cluster(int number, int cluster, int... words) {
        for (int j = 0; j < 8; j++) {
            word(number, 8 * cluster + j).is(j < words.length ? words[j] : 0);
        }
    }

    /** Puts all of a file on the stage: 128 calls. */
    void stageAll(int[] words) {
        for (int p = 0; p < 128; p++) {
            stage(p, words[4 * p], words[4 * p + 1], words[4 * p + 2], words[4 * p + 3]).is(1);
        }
    }

    /**
     * Fills a new file of size 64 until there is room for just so many clusters (0 .. 37) more:
     * block 0 of each leaf, then block 1 of each, and so on. With no room left the blocks 0 .. 4
     * of each leaf have clusters and block 5 of the leaves 0 .. 4; the last one taken is cluster
     * 63, for block 37; the blocks 6 and 7 of each leaf are absent.
     */
    void fill(int left) {
        for (int i = 0; i < 8; i++) {
            write(64 * i, 1).is(2);
        }
        for (int n = 0; n < 37 - left; n++) {
            write(64 * (n % 8) + 8 * (1 + n / 8), 1).is(1);
        }
    }
}
