/**
 * What load takes in and what it refuses: each check by hand on one file, and
 * files with a few words changed, against the judge.
 */
public final class LoadTest {
    private static final int FILES = 300;
    private static final int CHANGES = 150;

    private final Checks checks = new Checks("LoadTest");
    private final int[] met = new int[7];
    private final int[] untouched = new Calls(checks, 2).file(0);

    public static void main(String[] args) {
        LoadTest test = new LoadTest();
        test.rightByHand();
        test.header();
        test.leads();
        test.uses();
        test.list();
        test.counts();
        test.flags();
        test.blanks();
        test.firstOfMany();
        for (int seed = 1; seed <= FILES; seed++) {
            test.changed(new Dice(seed));
        }
        for (int i = 0; i < test.met.length; i++) {
            test.checks.hold("some changed file is answered with " + i, test.met[i] > 10);
        }
        test.checks.end();
    }

    /**
     * Size 12; clusters: 1 counts, 2 counts 0, 3 active table, 4 list, 5 and 6 tables of
     * 7 and 8, 7 leaf 0 of the active table, 9 leaf 0 of both snapshots, 10 leaf 1 of all,
     * 8 counts 1, 11 block 0 of the active table, 12 block 0 of the snapshots, 13 block 1
     * of all, 14 block 11 of all.
     */
    private static int[] file() {
        int[] w = new int[512];
        put(w, 0, 7001, 1, 12, 3, 1, 2, 4, 0);
        put(w, 1, 2, 8);
        put(w, 2, 1, 1, 1, 1, 1, 1, 1, 1);
        put(w, 3, 29, 40);
        put(w, 4, 5, 7, 6, 8);
        put(w, 5, 36, 40);
        put(w, 6, 36, 40);
        put(w, 7, 45, 52, 2);
        put(w, 8, 1, 2, 3, 1, 2, 3, 3);
        put(w, 9, 48, 52);
        put(w, 10, 0, 2, 0, 56);
        put(w, 11, 5);
        put(w, 12, 6);
        put(w, 13, 7);
        put(w, 14, -1, 0, 0, 0, 0, 0, 0, 8);
        return w;
    }

    private static void put(int[] w, int cluster, int... words) {
        System.arraycopy(words, 0, w, 8 * cluster, words.length);
    }

    private void rightByHand() {
        Calls x = new Calls(checks, 1);
        int[] w = file();
        loads(x, w, 0);
        due("size()", x.size(), 12);
        due("used()", x.used(), 15);
        due("read(0)", x.read(0), 5);
        due("readOld(7, 0)", x.readOld(7, 0), 6);
        due("readOld(8, 8)", x.readOld(8, 8), 7);
        due("read(95)", x.read(95), 8);
        checks.same("the file", x.file(0), w);
        // The active table leaves leaf 1 and block 11: clusters 15 and 17, counts in 16.
        due("write(95, 9)", x.write(95, 9), 2);
        due("word(0, 10): the new count cluster", x.word(0, 10), 16);
        due("word(0, 25)", x.word(0, 25), 61);
        due("word(0, 123)", x.word(0, 123), 69);
        due("word(0, 143)", x.word(0, 143), 9);
        due("delete(7)", x.delete(7), 0);
        due("word(0, 48): the leaf is one table's now", x.word(0, 48), 37);
        due("word(0, 49)", x.word(0, 49), 41);
        due("word(0, 83)", x.word(0, 83), 57);
        // A file with count clusters that count nothing, and without any block.
        int[] bare = new int[512];
        put(bare, 0, 7001, 1, 64, 62, 63);
        put(bare, 63, 61, 0, 0, 0, 0, 0, 0, 60);
        put(bare, 61, 1);
        put(bare, 60, 0, 0, 0, 0, 1, 1, 1, 1);
        loads(x, bare, 0);
        due("write(0, 1): the least clusters are free", x.write(0, 1), 2);
        due("word(0, 496)", x.word(0, 496), 5);
        due("word(0, 8)", x.word(0, 8), 9);
        put(bare, 63, 61, 59, 0, 0, 0, 0, 0, 60);
        put(bare, 60, 0, 0, 0, 1, 1, 1, 1, 1);
        loads(x, bare, 0);
        due("used()", x.used(), 6);
    }

    private void due(String what, Calls.Answer got, long want) {
        checks.due(what + ": " + got.call(), got.got(), want);
    }

    private void loads(Calls x, int[] words, int due) {
        x.stageAll(words);
        due("load()", x.load(), due);
        checks.due("the judge", Judge.firstWrong(words), due);
    }

    /** The file with some words changed: pairs of a word's number and what it is to be. */
    private void with(int due, int... changes) {
        int[] words = file();
        for (int i = 0; i < changes.length; i += 2) {
            words[changes[i]] = changes[i + 1];
        }
        Calls x = new Calls(checks, 5);
        x.write(3, 4);
        x.stageAll(words);
        String what = "load() with word " + changes[0] + " = " + changes[1];
        due(what, x.load(), due);
        due(what + " again", x.load(), due);
        checks.due(what + ", by the judge", Judge.firstWrong(words), due);
        due(what + ", size()", x.size(), due == 0 ? words[2] : 5);
        due(what + ", read(3)", x.read(3), due == 0 ? words[91] : 4);
    }

    private void header() {
        with(0, 91, 17);
        with(1, 0, 7000);
        with(1, 0, -7001);
        with(1, 1, 0);
        with(1, 1, 2);
        with(1, 2, 0);
        with(1, 2, -1);
        with(1, 2, 65);
        with(1, 2, Integer.MAX_VALUE);
        with(0, 2, 64);
        with(1, 5, -1);
        with(1, 5, 5);
        with(1, 5, 0);
        with(1, 6, 0);
        with(1, 5, Integer.MIN_VALUE);
        with(1, 7, 1);
        with(1, 7, -1);
    }

    private void leads() {
        for (int p : new int[] {3, 4, 6, 32, 34}) {
            for (int c : new int[] {-1, 64, 67, Integer.MIN_VALUE, Integer.MAX_VALUE}) {
                with(2, p, c);
            }
        }
        with(2, 3, 0);
        with(2, 4, 0);
        with(2, 32, 0);
        for (int c : new int[] {-1, 64, Integer.MIN_VALUE, Integer.MAX_VALUE}) {
            with(2, 8, c);
            with(2, 15, c);
        }
        // Words of tables (24 active, 41 a snapshot's) and of leaves (56, 83).
        for (int p : new int[] {24, 41, 56, 83}) {
            for (int w : new int[] {1, 3, 6, 7, 62, 63, 256, 257, -1, -4, -3, -256,
                Integer.MAX_VALUE, Integer.MIN_VALUE, Integer.MIN_VALUE + 37}) {
                with(2, p, w);
            }
        }
        with(2, 24, 2);
        with(0, 58, 0);
        with(0, 63, 2);
        // Blocks 12 .. 15 and leaves 2 .. 7 are none of size 12.
        with(2, 84, 2);
        with(2, 87, 61);
        with(2, 26, 61);
        with(2, 47, 61);
        with(2, 2, 11);
        with(2, 2, 8);
        with(0, 2, 13, 84, 2);
    }

    private void uses() {
        with(2, 3, 1);
        with(2, 4, 3);
        with(2, 6, 3);
        with(2, 8, 1);
        with(2, 9, 2);
        with(2, 10, 8);
        with(2, 34, 5);
        with(2, 32, 3);
        with(2, 32, 4);
        with(2, 32, 10);
        with(2, 24, 40);
        with(2, 25, 36);
        with(2, 24, 12);
        with(2, 56, 52);
        with(2, 57, 44);
        with(2, 83, 52);
        with(2, 83, 40);
        with(2, 56, 4);
        with(2, 56, 32);
        // The same leaf or the same block's cluster in two tables is one use.
        with(4, 24, 36);
        with(4, 56, 48);
    }

    private void list() {
        with(3, 35, 7);
        with(3, 33, 8);
        with(0, 33, 0);
        with(0, 33, Integer.MIN_VALUE, 35, Integer.MAX_VALUE);
        for (int p = 36; p < 40; p++) {
            with(3, p, 1);
        }
        // One snapshot less in the header: its words in the list are other words.
        with(3, 5, 1);
        with(4, 5, 1, 34, 0, 35, 0);
    }

    private void counts() {
        for (int p = 16; p < 24; p++) {
            with(4, p, 0);
            with(4, p, 2);
        }
        for (int p = 64; p < 72; p++) {
            with(4, p, 4);
            with(4, p, -1);
        }
        with(4, 9, 0);
        with(4, 8, 0);
        with(4, 10, 15);
        with(0, 10, 15, 71, 1);
        with(6, 10, 15, 71, 1, 200, 1);
        with(4, 11, 15, 71, 1, 120, 1);
        // A leaf counts by tables, and so does a block, by whatever leaf.
        with(4, 65, 1);
        with(4, 68, 1);
        with(4, 69, 2);
    }

    private void flags() {
        with(5, 24, 28);
        with(5, 25, 41);
        with(5, 40, 37);
        with(5, 49, 41);
        with(5, 56, 44);
        with(5, 57, 53);
        with(5, 72, 49);
        with(5, 83, 57);
    }

    private void blanks() {
        with(6, 120, 1);
        with(6, 511, -1);
        with(6, 127, 1);
        with(0, 88, 1, 95, 1);
        with(0, 119, 3);
    }

    private void firstOfMany() {
        with(1, 7, 1, 3, 64, 35, 7, 16, 2, 24, 28, 511, 1);
        with(2, 3, 64, 35, 7, 16, 2, 24, 28, 511, 1);
        with(3, 35, 7, 16, 2, 24, 28, 511, 1);
        with(4, 16, 2, 24, 28, 511, 1);
        with(5, 24, 28, 511, 1);
        with(6, 511, 1);
    }

    private void changed(Dice dice) {
        int[] right = Files.any(dice);
        Calls x = new Calls(checks, 2);
        x.write(0, 1);
        x.overlay();
        x.stageAll(right);
        due("load() of a right file", x.load(), 0);
        checks.due("the judge of a right file", Judge.firstWrong(right), 0);
        for (int i = 0; i < CHANGES; i++) {
            int[] words = right.clone();
            int changes = dice.of(1, 1, 1, 2, 2, 3);
            for (int j = 0; j < changes; j++) {
                change(dice, words);
            }
            judgeBoth(words);
        }
    }

    private void judgeBoth(int[] words) {
        Calls x = new Calls(checks, 2);
        x.write(0, 1);
        x.overlay();
        x.stageAll(words);
        int due = Judge.firstWrong(words);
        met[due]++;
        due("load()", x.load(), due);
        due("images()", x.images(), due == 0 ? 1 : 2);
        checks.same("the file", x.file(0), due == 0 ? words : untouched);
    }

    private static void change(Dice dice, int[] words) {
        int p = dice.below(3) == 0 ? dice.below(512) : nonZero(dice, words);
        int q = nonZero(dice, words);
        switch (dice.below(8)) {
            case 0: words[p] = 0; break;
            case 1: words[p] ^= 1; break;
            case 2: words[p] ^= 1 << dice.below(32); break;
            case 3: words[p] += dice.of(-4, -1, 1, 4); break;
            case 4: words[p] = words[q]; break;
            case 5: words[p] = dice.below(264) - 4; break;
            case 6: words[p] = dice.of(2, 3, dice.bits(), Integer.MIN_VALUE); break;
            default:
                int kept = words[p];
                words[p] = words[q];
                words[q] = kept;
                break;
        }
    }

    private static int nonZero(Dice dice, int[] words) {
        int p = dice.below(512);
        for (int i = 0; i < 512 && words[p] == 0; i++) {
            p = (p + 1) % 512;
        }
        return p;
    }
}
