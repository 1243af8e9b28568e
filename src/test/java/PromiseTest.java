/** For each promise the answers that the document gives by hand: ordinary, at the edges, and wrong. */
public final class PromiseTest {
    private static final int BAD = -1;
    private static final int FULL = -2;
    private static final int MANY = -3;
    private static final int TAKEN = -4;
    private static final long NONE = 4294967296L;

    private final Checks checks = new Checks("PromiseTest");

    public static void main(String[] args) {
        PromiseTest test = new PromiseTest();
        test.constants();
        test.newObject();
        test.write();
        test.writeWithSnapshots();
        test.writeOverImages();
        test.takingAndRoom();
        test.read();
        test.discard();
        test.discardOverImages();
        test.snapshot();
        test.revert();
        test.delete();
        test.readOld();
        test.overlay();
        test.commit();
        test.commitRefused();
        test.commitWithoutRoom();
        test.commitFillsTheLastCluster();
        test.commitCountsCountClusters();
        test.commitIntoFullFile();
        test.growAndSize();
        test.images();
        test.used();
        test.word();
        test.stage();
        test.load();
        test.checks.end();
    }

    private void due(String call, long got, long want) {
        checks.due(call, got, want);
    }

    private void due(String call, Calls.Answer got, long want) {
        checks.due(call + ": " + got.call(), got.got(), want);
    }

    private void cluster(Calls x, int image, int cluster, int... words) {
        for (int j = 0; j < 8; j++) {
            int p = 8 * cluster + j;
            due("word(" + image + ", " + p + ")", x.word(image, p), j < words.length ? words[j] : 0);
        }
    }

    private void sameAs(String what, Calls x, int image, int[] words) {
        checks.same(what, x.file(image), words);
    }

    private void constants() {
        due("BAD", LayeredImage.BAD, -1);
        due("FULL", LayeredImage.FULL, -2);
        due("MANY", LayeredImage.MANY, -3);
        due("TAKEN", LayeredImage.TAKEN, -4);
        due("NONE", LayeredImage.NONE, 1L << 32);
    }

    private void newObject() {
        int[] given = {Integer.MIN_VALUE, -1, 0, 1, 2, 63, 64, 65, Integer.MAX_VALUE};
        int[] sizes = {1, 1, 1, 1, 2, 63, 64, 64, 64};
        for (int i = 0; i < given.length; i++) {
            Calls x = new Calls(checks, given[i]);
            due("size() of " + given[i], x.size(), sizes[i]);
            due("images()", x.images(), 1);
            int[] file = new int[512];
            System.arraycopy(new int[] {7001, 1, sizes[i], 3, 1}, 0, file, 0, 5);
            System.arraycopy(new int[] {2, 0, 0, 0, 0, 0, 0, 0, 1, 1, 1, 1}, 0, file, 8, 12);
            sameAs("a new file", x, 0, file);
            due("load() of the empty stage", x.load(), 1);
        }
    }

    private void write() {
        Calls x = new Calls(checks, 10);
        due("write(9, 4)", x.write(9, 4), 2);
        cluster(x, 0, 2, 1, 1, 1, 1, 1, 1);
        cluster(x, 0, 3, 17);
        cluster(x, 0, 4, 0, 21);
        cluster(x, 0, 5, 0, 4);
        due("write(8, -1) in the same block", x.write(8, -1), 0);
        due("write(16, 6) in the same leaf", x.write(16, 6), 1);
        cluster(x, 0, 4, 0, 21, 25);
        cluster(x, 0, 5, -1, 4);
        cluster(x, 0, 6, 6);
        due("write(79, 7) in another leaf", x.write(79, 7), 2);
        cluster(x, 0, 1, 2, 8);
        cluster(x, 0, 2, 1, 1, 1, 1, 1, 1, 1, 1);
        cluster(x, 0, 3, 17, 29);
        cluster(x, 0, 7, 0, 37);
        cluster(x, 0, 8, 1, 1);
        cluster(x, 0, 9, 0, 0, 0, 0, 0, 0, 0, 7);
        int[] before = x.file(0);
        for (int address : new int[] {-1, 80, 81, Integer.MIN_VALUE, Integer.MAX_VALUE}) {
            due("write(" + address + ", 1)", x.write(address, 1), BAD);
        }
        sameAs("after refused writes", x, 0, before);
    }

    private void writeWithSnapshots() {
        Calls x = new Calls(checks, 16);
        x.write(0, 1);
        x.write(8, 2);
        x.snapshot(9);
        // 3 table, 4 leaf, 5 and 6 blocks, 7 list, 8 counts, 9 the snapshot's table.
        cluster(x, 0, 2, 1, 1, 1, 1, 2, 2, 2, 1);
        cluster(x, 0, 4, 20, 24);
        due("write(1, 3): leaf and block are shared", x.write(1, 3), 2);
        cluster(x, 0, 2, 1, 1, 1, 1, 1, 1, 2, 1);
        cluster(x, 0, 8, 1, 1, 1, 1);
        cluster(x, 0, 3, 41);
        cluster(x, 0, 9, 17);
        cluster(x, 0, 4, 21, 24);
        cluster(x, 0, 10, 45, 24);
        cluster(x, 0, 11, 1, 3);
        due("write(15, 4): the block alone is shared", x.write(15, 4), 1);
        cluster(x, 0, 4, 21, 25);
        cluster(x, 0, 10, 45, 49);
        cluster(x, 0, 12, 2, 0, 0, 0, 0, 0, 0, 4);
        due("read(8)", x.read(8), 2);
        due("readOld(9, 15)", x.readOld(9, 15), 0);
        due("write(15, 5): its own by now", x.write(15, 5), 0);
    }

    private void writeOverImages() {
        Calls x = new Calls(checks, 8);
        x.write(0, 1);
        x.write(7, 2);
        x.write(8, 3);
        x.overlay();
        due("write(3, 5)", x.write(3, 5), 2);
        cluster(x, 0, 5, 1, 0, 0, 5, 0, 0, 0, 2);
        cluster(x, 1, 5, 1, 0, 0, 0, 0, 0, 0, 2);
        due("discard(1)", x.discard(1), 0);
        due("write(9, 6) over a zero block", x.write(9, 6), 1);
        cluster(x, 0, 6, 0, 6);
        due("read(8)", x.read(8), 0);
        x.overlay();
        due("write(4, 7) over two images", x.write(4, 7), 2);
        cluster(x, 0, 5, 1, 0, 0, 5, 7, 0, 0, 2);
    }

    private void takingAndRoom() {
        Calls x = new Calls(checks, 64);
        for (int i = 0; i < 8; i++) {
            due("write " + i, x.write(64 * i, 1), 2);
        }
        due("used()", x.used(), 4 + 16 + 2);
        // The clusters 0 .. 21 are in use: room for 22, 23 and 5 * 7 beyond.
        for (int i = 0; i < 8; i++) {
            for (int j = 1; j < 5; j++) {
                due("write " + i + " " + j, x.write(64 * i + 8 * j, 1), 1);
            }
        }
        due("used()", x.used(), 22 + 32 + 5);
        for (int i = 0; i < 5; i++) {
            due("write", x.write(64 * i + 40, 1), 1);
        }
        due("used()", x.used(), 64);
        int[] before = x.file(0);
        due("write(360, 1)", x.write(360, 1), FULL);
        due("snapshot(1)", x.snapshot(1), FULL);
        sameAs("after refused calls", x, 0, before);
        due("write(0, 2) takes nothing", x.write(0, 2), 0);
        due("discard(1)", x.discard(1), 0);
        due("used()", x.used(), 63);
        due("snapshot(1) wants two", x.snapshot(1), FULL);
        due("write(360, 1) in the free one", x.write(360, 1), 1);
        due("discard(2)", x.discard(2), 0);
        due("discard(3)", x.discard(3), 0);
        due("snapshot(1)", x.snapshot(1), 0);
        due("used()", x.used(), 64);
        before = x.file(0);
        due("write(0, 3) with all shared", x.write(0, 3), FULL);
        due("discard(0) with all shared", x.discard(0), FULL);
        due("discard(1), ZERO already", x.discard(1), 0);
        due("discard(63), absent", x.discard(63), 0);
        due("discard(64)", x.discard(64), BAD);
        due("write(512, 0)", x.write(512, 0), BAD);
        sameAs("after refused calls", x, 0, before);
        // The last eighth alone, without counts, has room for seven.
        Calls y = new Calls(checks, 64);
        for (int n = 0; n < 40; n++) {
            due("write", y.write(64 * (n % 6) + 8 * (n / 6), 1), n < 6 ? 2 : 1);
        }
        due("used()", y.used(), 4 + 6 + 46);
        due("word(0, 15)", y.word(0, 15), 0);
        due("write(500, 1)", y.write(500, 1), 2);
        due("word(0, 15)", y.word(0, 15), 56);
        due("used()", y.used(), 59);
    }

    private void read() {
        Calls x = new Calls(checks, 3);
        x.write(23, Integer.MIN_VALUE);
        due("read(23)", x.read(23), Integer.MIN_VALUE);
        due("read(22)", x.read(22), 0);
        due("read(0), absent", x.read(0), 0);
        due("read(24)", x.read(24), 0);
        due("read(-1)", x.read(-1), 0);
        due("read(MIN)", x.read(Integer.MIN_VALUE), 0);
        due("read(MAX)", x.read(Integer.MAX_VALUE), 0);
        x.overlay();
        x.grow(9);
        due("read(23) from below", x.read(23), Integer.MIN_VALUE);
        due("read(24) that is not below", x.read(24), 0);
        x.overlay();
        due("read(23) from the lowest", x.read(23), Integer.MIN_VALUE);
        x.discard(2);
        due("read(23), zero", x.read(23), 0);
    }

    private void discard() {
        Calls x = new Calls(checks, 9);
        due("discard(0), absent", x.discard(0), 0);
        due("used()", x.used(), 4);
        x.write(0, 1);
        x.write(8, 2);
        due("discard(0)", x.discard(0), 0);
        due("used()", x.used(), 6);
        cluster(x, 0, 2, 1, 1, 1, 1, 1, 0, 1);
        cluster(x, 0, 4, 2, 25);
        cluster(x, 0, 5);
        due("discard(0), ZERO", x.discard(0), 0);
        due("discard(2), absent beside", x.discard(2), 0);
        cluster(x, 0, 4, 2, 25);
        due("write(1, 3) takes the freed one", x.write(1, 3), 1);
        cluster(x, 0, 5, 0, 3);
        x.snapshot(1);
        due("discard(1) with a shared leaf", x.discard(1), 1);
        // 7 list, 8 counts, 9 the snapshot's table, 10 the new leaf.
        cluster(x, 0, 3, 41);
        cluster(x, 0, 4, 20, 25);
        cluster(x, 0, 10, 20, 2);
        due("readOld(1, 8)", x.readOld(1, 8), 2);
        int[] before = x.file(0);
        for (int block : new int[] {-1, 9, Integer.MIN_VALUE, Integer.MAX_VALUE}) {
            due("discard(" + block + ")", x.discard(block), BAD);
        }
        sameAs("after refused discards", x, 0, before);
    }

    private void discardOverImages() {
        Calls x = new Calls(checks, 9);
        x.write(0, 1);
        x.overlay();
        due("discard(8), absent in both", x.discard(8), 1);
        cluster(x, 0, 3, 0, 17);
        cluster(x, 0, 4, 2);
        due("discard(8) again", x.discard(8), 0);
        due("discard(0)", x.discard(0), 1);
        due("read(0)", x.read(0), 0);
        due("word(1, 40)", x.word(1, 40), 1);
        x.snapshot(1);
        due("discard(8), ZERO in a shared leaf", x.discard(8), 0);
        due("discard(7), absent in a shared leaf", x.discard(7), 1);
    }

    private void snapshot() {
        Calls x = new Calls(checks, 8);
        x.write(0, 1);
        due("snapshot(-5)", x.snapshot(-5), 0);
        // 6 list, 7 table: the list is taken before the table.
        cluster(x, 0, 0, 7001, 1, 8, 3, 1, 1, 6, 0);
        cluster(x, 0, 6, 7, -5);
        cluster(x, 0, 7, 16);
        cluster(x, 0, 3, 16);
        cluster(x, 0, 4, 20);
        cluster(x, 0, 2, 1, 1, 1, 1, 2, 2, 1, 1);
        due("snapshot(-5) again", x.snapshot(-5), TAKEN);
        due("snapshot(0)", x.snapshot(0), 0);
        cluster(x, 0, 6, 7, -5, 9, 0);
        cluster(x, 0, 9, 16);
        cluster(x, 0, 2, 1, 1, 1, 1, 3, 3, 1, 1);
        due("snapshot(MIN)", x.snapshot(Integer.MIN_VALUE), 0);
        due("snapshot(MAX)", x.snapshot(Integer.MAX_VALUE), 0);
        cluster(x, 0, 6, 7, -5, 9, 0, 10, Integer.MIN_VALUE, 11, Integer.MAX_VALUE);
        int[] before = x.file(0);
        due("snapshot(1), the fifth", x.snapshot(1), MANY);
        due("snapshot(0), the fifth and taken", x.snapshot(0), TAKEN);
        sameAs("after refused snapshots", x, 0, before);
    }

    private void revert() {
        Calls x = new Calls(checks, 8);
        due("revert(0) without one", x.revert(0), BAD);
        x.write(0, 1);
        x.snapshot(4);
        x.write(0, 2);
        x.write(8, 3);
        // 6 list, 7 the snapshot's table, 8 counts, 9 leaf, 10 and 11 blocks.
        due("used()", x.used(), 12);
        x.grow(9);
        due("revert(4)", x.revert(4), 0);
        due("used()", x.used(), 9);
        due("size()", x.size(), 9);
        cluster(x, 0, 3, 16);
        cluster(x, 0, 4, 20);
        cluster(x, 0, 7, 16);
        cluster(x, 0, 8, 1);
        for (int c = 9; c < 12; c++) {
            cluster(x, 0, c);
        }
        due("read(0)", x.read(0), 1);
        due("revert(4) again", x.revert(4), 0);
        int[] before = x.file(0);
        due("revert(5)", x.revert(5), BAD);
        sameAs("after a refused revert", x, 0, before);
        due("the snapshot stays", x.snapshot(4), TAKEN);
    }

    private void delete() {
        Calls x = new Calls(checks, 8);
        due("delete(0) without one", x.delete(0), BAD);
        x.write(0, 1);
        x.snapshot(1);
        x.write(0, 2);
        x.snapshot(2);
        x.snapshot(3);
        // 6 list, 7 table of 1, 8 counts, 9 leaf, 10 block, 11 and 12 tables of 2 and 3.
        cluster(x, 0, 6, 7, 1, 11, 2, 12, 3);
        int[] before = x.file(0);
        due("delete(4)", x.delete(4), BAD);
        sameAs("after a refused delete", x, 0, before);
        due("delete(1)", x.delete(1), 0);
        cluster(x, 0, 0, 7001, 1, 8, 3, 1, 2, 6, 0);
        cluster(x, 0, 6, 11, 2, 12, 3);
        cluster(x, 0, 7);
        cluster(x, 0, 4);
        cluster(x, 0, 5);
        cluster(x, 0, 9, 40);
        due("delete(3)", x.delete(3), 0);
        cluster(x, 0, 6, 11, 2);
        due("delete(2)", x.delete(2), 0);
        cluster(x, 0, 0, 7001, 1, 8, 3, 1, 0, 0, 0);
        cluster(x, 0, 6);
        cluster(x, 0, 3, 37);
        cluster(x, 0, 9, 41);
        cluster(x, 0, 2, 1, 1, 1, 1);
        cluster(x, 0, 8, 1, 1, 1);
        due("used(): the count cluster stays", x.used(), 7);
        due("delete(2) again", x.delete(2), BAD);
    }

    private void readOld() {
        Calls x = new Calls(checks, 2);
        due("readOld(0, 0) without one", x.readOld(0, 0), NONE);
        x.write(0, -1);
        x.snapshot(0);
        x.write(0, 5);
        due("readOld(0, 0)", x.readOld(0, 0), -1);
        due("readOld(0, 8), absent", x.readOld(0, 8), 0);
        due("readOld(0, 15)", x.readOld(0, 15), 0);
        due("readOld(0, 16)", x.readOld(0, 16), NONE);
        due("readOld(0, -1)", x.readOld(0, -1), NONE);
        due("readOld(0, MAX)", x.readOld(0, Integer.MAX_VALUE), NONE);
        due("readOld(1, 0)", x.readOld(1, 0), NONE);
        x.grow(9);
        due("readOld(0, 71) by the size of now", x.readOld(0, 71), 0);
        x.overlay();
        due("readOld(0, 0): the snapshot is below", x.readOld(0, 0), NONE);
        x.snapshot(7);
        x.write(0, 6);
        due("readOld(7, 0): the active table below", x.readOld(7, 0), 5);
        x.snapshot(8);
        x.discard(0);
        x.snapshot(9);
        due("readOld(8, 0)", x.readOld(8, 0), 6);
        due("readOld(9, 0), zero", x.readOld(9, 0), 0);
    }

    private void overlay() {
        Calls x = new Calls(checks, 12);
        x.write(0, 1);
        x.snapshot(3);
        int[] lower = x.file(0);
        due("overlay()", x.overlay(), 2);
        sameAs("the new file", x, 0, new Calls(checks, 12).file(0));
        sameAs("the file below", x, 1, lower);
        due("delete(3): its snapshots are below", x.delete(3), BAD);
        due("snapshot(3)", x.snapshot(3), 0);
        x.delete(3);
        x.write(90, 1);
        due("overlay()", x.overlay(), 3);
        int[] before = x.file(0);
        due("overlay() above three", x.overlay(), MANY);
        due("images()", x.images(), 3);
        sameAs("after a refused overlay", x, 0, before);
        x.write(0, 9);
        x.commit();
        x.commit();
        due("overlay() after commits", x.overlay(), 2);
        sameAs("a file used before", x, 0, new Calls(checks, 12).file(0));
        due("delete(3)", x.delete(3), BAD);
    }

    private void commit() {
        Calls x = new Calls(checks, 9);
        x.write(0, 1);
        x.write(8, 2);
        x.snapshot(6);
        x.overlay();
        x.grow(20);
        due("commit() of nothing but a size", x.commit(), 0);
        due("size()", x.size(), 20);
        due("readOld(6, 0)", x.readOld(6, 0), 1);
        x.overlay();
        x.write(1, 3);
        x.discard(1);
        x.discard(19);
        x.write(80, 4);
        due("commit()", x.commit(), 4);
        due("images()", x.images(), 1);
        due("read(0)", x.read(0), 1);
        due("read(1)", x.read(1), 3);
        due("read(8)", x.read(8), 0);
        due("read(80)", x.read(80), 4);
        due("readOld(6, 1)", x.readOld(6, 1), 0);
        due("readOld(6, 8)", x.readOld(6, 8), 2);
        // 4 leaf, 5 and 6 blocks, 7 list, 8 counts, 9 the snapshot's table: all of the
        // snapshot; then block 0: leaf 10 and cluster 11; block 10: leaf 12 and cluster 13.
        cluster(x, 0, 3, 41, 49);
        cluster(x, 0, 4, 21, 25);
        cluster(x, 0, 10, 45, 2);
        cluster(x, 0, 11, 1, 3);
        cluster(x, 0, 12, 0, 0, 53);
        cluster(x, 0, 13, 4);
        // Block 19 was absent below, with nothing under it: it got no leaf.
        due("used()", x.used(), 14);
        x.overlay();
        x.overlay();
        x.discard(19);
        due("commit() of an absent block over an image", x.commit(), 1);
        cluster(x, 0, 3, 0, 0, 17);
        cluster(x, 0, 4, 0, 0, 0, 2);
        due("images()", x.images(), 2);
    }

    private void commitRefused() {
        Calls x = new Calls(checks, 4);
        due("commit() of one image", x.commit(), BAD);
        x.snapshot(1);
        due("commit() of one image with a snapshot", x.commit(), BAD);
        x.overlay();
        x.snapshot(2);
        x.write(0, 1);
        int[] before = x.file(0);
        due("commit() with a snapshot", x.commit(), TAKEN);
        due("images()", x.images(), 2);
        sameAs("after a refused commit", x, 0, before);
        x.delete(2);
        due("commit()", x.commit(), 1);
        due("snapshot(1) of the image below", x.snapshot(1), TAKEN);
    }

    /** Fills a new file to 62 clusters: 7 count clusters more, 8 leaves, 43 blocks. */
    private Calls almostFull() {
        Calls x = new Calls(checks, 64);
        for (int i = 0; i < 8; i++) {
            for (int j = 0; j < 5; j++) {
                x.write(64 * i + 8 * j, 1);
            }
        }
        for (int i = 0; i < 3; i++) {
            x.write(64 * i + 40, 1);
        }
        due("used()", x.used(), 62);
        return x;
    }

    private void commitWithoutRoom() {
        Calls x = almostFull();
        int[] lower = x.file(0);
        x.overlay();
        for (int i = 0; i < 5; i++) {
            x.discard(i);
        }
        for (int i = 3; i < 6; i++) {
            x.write(64 * i + 40, 2);
        }
        int[] upper = x.file(0);
        due("commit() of three more: what comes free is no room", x.commit(), FULL);
        due("images()", x.images(), 2);
        sameAs("the upper file", x, 0, upper);
        sameAs("the lower file", x, 1, lower);
    }

    private void commitFillsTheLastCluster() {
        Calls x = almostFull();
        x.overlay();
        x.discard(1);
        x.discard(0);
        for (int i = 3; i < 5; i++) {
            x.write(64 * i + 40, 2);
        }
        x.write(0, 3);
        due("commit() of two more", x.commit(), 4);
        due("used()", x.used(), 63);
        due("read(0)", x.read(0), 3);
        due("read(232)", x.read(232), 2);
        due("read(8)", x.read(8), 0);
    }

    /** Below stands a new file with a snapshot: 58 free, of which 7 become count clusters. */
    private void commitCountsCountClusters() {
        Calls x = new Calls(checks, 64);
        x.snapshot(1);
        x.overlay();
        for (int n = 0; n < 44; n++) {
            due("write", x.write(64 * (n % 8) + 8 * (n / 8), n), n < 8 ? 2 : 1);
        }
        due("commit() of 8 leaves and 44 clusters", x.commit(), FULL);
        x.discard(0);
        due("commit() of 8 leaves and 43 clusters", x.commit(), 44);
        due("used()", x.used(), 64);
        due("read(0)", x.read(0), 0);
        due("read(344)", x.read(344), 29);
    }

    /** A full file with a snapshot, all its leaves shared, none for the last eight blocks. */
    private Calls full() {
        Calls x = new Calls(checks, 64);
        for (int n = 0; n < 44; n++) {
            x.write(64 * (n % 7) + 8 * (n / 7), 1);
        }
        x.snapshot(1);
        due("used()", x.used(), 64);
        x.overlay();
        return x;
    }

    private void commitIntoFullFile() {
        Calls x = full();
        due("commit() of nothing", x.commit(), 0);
        x = full();
        x.discard(56);
        x.discard(7);
        due("commit() of ZERO blocks that are absent below", x.commit(), 2);
        due("word(0, 31): no leaf for them", x.word(0, 31), 0);
        x = full();
        x.discard(0);
        due("commit() of a ZERO block in a shared leaf", x.commit(), FULL);
        x = full();
        x.write(0, 1);
        due("commit() of a block in a shared leaf", x.commit(), FULL);
    }

    private void growAndSize() {
        Calls x = new Calls(checks, 7);
        x.write(55, 1);
        int[] before = x.file(0);
        for (int size : new int[] {7, 6, 0, -1, 65, Integer.MIN_VALUE, Integer.MAX_VALUE}) {
            due("grow(" + size + ")", x.grow(size), BAD);
        }
        sameAs("after refused grows", x, 0, before);
        due("grow(8)", x.grow(8), 0);
        due("size()", x.size(), 8);
        before[2] = 8;
        sameAs("after grow(8)", x, 0, before);
        due("write(63, 1)", x.write(63, 1), 1);
        due("write(64, 1)", x.write(64, 1), BAD);
        x.overlay();
        due("grow(64)", x.grow(64), 0);
        due("word(1, 2)", x.word(1, 2), 8);
        due("write(511, 1)", x.write(511, 1), 2);
        due("grow(64) again", x.grow(64), BAD);
    }

    private void images() {
        Calls x = new Calls(checks, 7);
        due("images()", x.images(), 1);
        x.overlay();
        due("images()", x.images(), 2);
        x.overlay();
        due("images()", x.images(), 3);
        x.commit();
        due("images()", x.images(), 2);
        x.stageAll(new Calls(checks, 5).file(0));
        due("load()", x.load(), 0);
        due("images()", x.images(), 1);
    }

    private void used() {
        Calls x = new Calls(checks, 64);
        due("used()", x.used(), 4);
        x.write(0, 1);
        due("used()", x.used(), 6);
        x.snapshot(0);
        due("used(), no count cluster yet", x.used(), 8);
        x.write(0, 2);
        due("used(), with a count cluster", x.used(), 11);
        x.overlay();
        due("used() of the top image", x.used(), 4);
    }

    private void word() {
        Calls x = new Calls(checks, 1);
        x.overlay();
        x.grow(2);
        due("word(0, 2)", x.word(0, 2), 2);
        due("word(1, 2)", x.word(1, 2), 1);
        due("word(2, 2)", x.word(2, 2), 0);
        due("word(-1, 2)", x.word(-1, 2), 0);
        due("word(MIN, 2)", x.word(Integer.MIN_VALUE, 2), 0);
        due("word(MAX, 2)", x.word(Integer.MAX_VALUE, 2), 0);
        due("word(0, -1)", x.word(0, -1), 0);
        due("word(0, 512)", x.word(0, 512), 0);
        due("word(0, MIN)", x.word(0, Integer.MIN_VALUE), 0);
        due("word(0, MAX)", x.word(0, Integer.MAX_VALUE), 0);
    }

    private void stage() {
        Calls x = new Calls(checks, 1);
        for (int p : new int[] {-1, 128, Integer.MIN_VALUE, Integer.MAX_VALUE}) {
            due("stage(" + p + ")", x.stage(p, 1, 1, 1, 1), 0);
        }
        int[] words = new Calls(checks, 33).file(0);
        x.stageAll(words);
        due("size(): the stage is not the file", x.size(), 1);
        due("load()", x.load(), 0);
        due("size()", x.size(), 33);
        x.write(0, 1);
        due("load() again: the stage has stayed", x.load(), 0);
        due("read(0)", x.read(0), 0);
        due("stage(127, 0, 0, 0, 1)", x.stage(127, 0, 0, 0, 1), 1);
        due("load()", x.load(), 6);
        due("load() again: the stage has stayed", x.load(), 6);
    }

    private void load() {
        Calls x = new Calls(checks, 9);
        x.write(0, 1);
        x.write(64, 2);
        x.snapshot(1);
        x.overlay();
        x.write(0, 5);
        int[] words = new Calls(checks, 3).file(0);
        words[0] = 7000;
        x.stageAll(words);
        due("load()", x.load(), 1);
        due("images()", x.images(), 2);
        due("read(0): nothing has changed", x.read(0), 5);
        words[0] = 7001;
        x.stageAll(words);
        due("load()", x.load(), 0);
        due("images()", x.images(), 1);
        due("size()", x.size(), 3);
        due("read(0): nothing is below", x.read(0), 0);
        due("commit()", x.commit(), BAD);
        due("revert(1)", x.revert(1), BAD);
        sameAs("the file", x, 0, words);
        x.grow(64);
        for (int i = 0; i < 64; i++) {
            due("read(" + 8 * i + ")", x.read(8 * i), 0);
        }
    }
}
