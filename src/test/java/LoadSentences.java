import java.util.ArrayList;
import java.util.List;

/** The sentences of promise 17: load, on one file with some of its words changed. */
final class LoadSentences extends Sentences {
    LoadSentences() {
        under("Promise 17");
        right();
        rightAtTheEnds();
        oneAfterAnother();
        wrong();
        firstOfMany();
        headerWords();
        headerList();
        leadsOut();
        leadsAtTheEnds();
        usesAlone();
        usesOfTables();
        usesInPairs();
        words();
        wordsWithoutBlock();
        list();
        counts();
        countsAtTheEnds();
        flags();
        blanks();
    }

    /**
     * Size 12; clusters: 1 count table, 2 counts 0, 3 active table, 4 list, 5 and 6 tables of
     * the snapshots 7 and 8, 7 leaf 0 of the active table, 8 counts 1, 9 leaf 0 of both
     * snapshots, 10 leaf 1 of all, 11 block 0 of the active table, 12 block 0 of the snapshots,
     * 13 block 1 of all, 14 block 11 of all.
     */
    private static int[] base(int... changes) {
        int[] w = new int[512];
        put(w, 0, 7001, 1, 12, 3, 1, 2, 4, 0);
        put(w, 1, 2, 8);
        put(w, 2, 1, 1, 1, 1, 1, 1, 1, 1);
        put(w, 3, 29, 40);
        put(w, 4, 5, 7, 6, 8);
        put(w, 5, 36, 40);
        put(w, 6, 36, 40);
        put(w, 7, 45, 52, 2);
        put(w, 8, 1, 2, 3, 1, 2, 3, 3);
        put(w, 9, 48, 52);
        put(w, 10, 0, 2, 0, 56);
        put(w, 11, 5);
        put(w, 12, 6);
        put(w, 13, 7);
        put(w, 14, -1, 0, 0, 0, 0, 0, 0, 8);
        return with(w, changes);
    }

    /** A new file of size 64 whose count table is 63, its counts 62 and 61 and its table 60. */
    private static int[] high(int... changes) {
        int[] w = new int[512];
        put(w, 0, 7001, 1, 64, 60, 63);
        put(w, 63, 61, 0, 0, 0, 0, 0, 0, 62);
        put(w, 61, 1);
        put(w, 62, 0, 0, 0, 0, 1, 1, 1, 1);
        return with(w, changes);
    }

    private static void put(int[] w, int cluster, int... words) {
        System.arraycopy(words, 0, w, 8 * cluster, words.length);
    }

    /** The words with changes: pairs of a word's number and what it is to be. */
    private static int[] with(int[] words, int... changes) {
        for (int i = 0; i < changes.length; i += 2) {
            words[changes[i]] = changes[i + 1];
        }
        return words;
    }

    private Sentence load(String edge, int due, int... changes) {
        return on(edge, 5, x -> loads(x, base(changes), due));
    }

    private Sentence loadHigh(String edge, int due, int... changes) {
        return on(edge, 5, x -> loads(x, high(changes), due));
    }

    /** The same word with each of some values: what load answers is due for all of them. */
    private Sentence loadEach(String edge, int due, int p, int... values) {
        return test(edge, checks -> {
            for (int value : values) {
                loads(new Calls(checks, 5), base(p, value), due);
            }
        });
    }

    private static void loads(Calls x, int[] words, int due) {
        x.checks().due("the judge", Judge.firstWrong(words), due);
        x.write(3, 4).is(2);
        x.stageAll(words);
        x.load().is(due);
        x.size().is(due == 0 ? words[2] : 5);
        x.word(0, 3).is(due == 0 ? words[3] : 3);
        x.load().is(due);
    }

    private void right() {
        says("If the 512 words on the stage are a file that is RIGHT, the chain becomes one image "
            + "with this file, and the answer is 0; else nothing changes, and the answer is the "
            + "first of these that is wrong (the stage stays in both cases):");
        test("all 512 words of it are the file's then", checks -> {
            int[] words = file(checks, 64, 0, x -> {
                x.write(511, 1).is(2);
                x.stageAll(base());
                x.load().is(0);
            });
            checks.same("the file", words, base());
        }).broken("void becomeLike(", "FILE_WORDS", "FILE_WORDS / 5");
        on("the chain of three becomes one image", 5, x -> {
            x.write(39, 6).is(2);
            x.overlay().is(2);
            x.overlay().is(3);
            x.stageAll(base());
            x.load().is(0);
            x.images().is(1);
            x.word(1, 0).is(0);
            x.commit().is(BAD);
            x.read(39).is(0);
            x.read(0).is(5);
            x.overlay().is(2);
            x.overlay().is(3);
            x.overlay().is(MANY);
        }).broken("public int load(", "height = 1;\n            top().", "top().");
        on("it can be used: snapshots, counts and room are the file's", 5, x -> {
            x.snapshot(1).is(0);
            x.stageAll(base());
            x.load().is(0);
            x.readOld(1, 0).is(NONE);
            x.readOld(7, 0).is(6);
            x.readOld(8, 95).is(8);
            x.used().is(15);
            x.write(95, 9).is(2);
            x.cluster(0, 1, 2, 8, 16);
            x.word(0, 143).is(9);
            x.delete(7).is(0);
            x.delete(8).is(0);
            x.word(0, 6).is(0);
        }).broken("public int load(", "top().file.becomeLike(staged);",
            "top().file.becomeLike(staged);\n            top().removeSnapshot(0);");
        on("the stage stays: what is done to the image isn't done to it", 5, x -> {
            x.stageAll(base());
            x.load().is(0);
            x.write(0, 99).is(0);
            x.write(95, 98).is(2);
            x.load().is(0);
            x.read(0).is(5);
            x.read(95).is(8);
        }).broken("public int load(", "top().file.becomeLike(staged);",
            "top().file.becomeLike(staged);\n            staged.put(11, 0, 99);");
    }

    private void rightAtTheEnds() {
        on("a new file's words, of the least size and of the greatest", 5, x -> {
            x.stage(0, 7001, 1, 1, 3).is(1);
            x.stage(1, 1, 0, 0, 0).is(1);
            x.stage(2, 2, 0, 0, 0).is(1);
            x.stage(4, 1, 1, 1, 1).is(1);
            x.load().is(0);
            x.size().is(1);
            x.stage(0, 7001, 1, 64, 3).is(1);
            x.load().is(0);
            x.size().is(64);
            x.write(511, 1).is(2);
        }).broken("private static boolean isHeaderRight(", "size >= 1", "size > 1")
            .broken("private static boolean isHeaderRight(", "size <= MOST_BLOCKS",
                "size < MOST_BLOCKS");
        on("a file with each cluster in use is taken in as it is", 5, x -> {
            int[] words = file(x.checks(), 64, 0, full -> full.fill(0));
            x.stageAll(words);
            x.load().is(0);
            x.used().is(64);
            x.write(56, 1).is(FULL);
            x.read(296).is(1);
        }).broken("private boolean claim(", "cluster > LAST_CLUSTER", "cluster >= LAST_CLUSTER");
    }

    private void oneAfterAnother() {
        on("files of two layouts, one after the other", 5, x -> {
            x.stageAll(base());
            x.load().is(0);
            x.word(0, 3).is(3);
            x.stageAll(tablesExchanged());
            x.load().is(0);
            x.word(0, 3).is(1);
            x.stageAll(base());
            x.load().is(0);
            x.word(0, 3).is(3);
        }).broken("private boolean areLeadsRight(", "uses[i] = 0;", "")
            .broken("private boolean areLeadsRight(", "counts[i] = 0;", "");
        on("a file of another layout behind one that was wrong", 5, x -> {
            x.stageAll(base(47, 61));
            x.load().is(2);
            x.stageAll(tablesExchanged());
            x.load().is(0);
            x.word(0, 3).is(1);
        }).broken("private boolean areLeadsRight(", "uses[i] = 0;", "")
            .broken("private boolean areLeadsRight(", "counts[i] = 0;", "");
    }

    /** The active table is in cluster 1, the count table in cluster 3. */
    private static int[] tablesExchanged() {
        return base(3, 1, 4, 3, 8, 29, 9, 40, 24, 2, 25, 8);
    }

    private void wrong() {
        on("nothing changes in a chain, and the stage stays", 5, x -> {
            x.write(3, 4).is(2);
            x.overlay().is(2);
            x.grow(6).is(0);
            x.snapshot(9).is(0);
            x.stageAll(base(511, 1));
            x.load().is(6);
            x.images().is(2);
            x.size().is(6);
            x.read(3).is(4);
            x.readOld(9, 3).is(4);
            x.used().is(6);
            x.load().is(6);
            x.stage(127, 0, 0, 0, 0).is(1);
            x.load().is(0);
        }).broken("public int load(", "if (wrong == 0) {", "if (wrong == 0 || wrong == 6) {")
            .broken("public int load(", "return wrong;", "staged.format(1);\n        return wrong;");
        test("nothing changes by any of the six, in any file", checks -> {
            int[][] faults = {{0, 7000}, {3, 64}, {35, 7}, {16, 2}, {24, 28}, {511, 1}};
            for (int i = 0; i < 6; i++) {
                Calls x = new Calls(checks, 5);
                x.write(3, 4).is(2);
                x.snapshot(2).is(0);
                x.overlay().is(2);
                x.write(9, 5).is(2);
                int[] top = x.file(0);
                int[] below = x.file(1);
                x.stageAll(base(faults[i]));
                x.load().is(i + 1);
                checks.same("the top file after " + (i + 1), x.file(0), top);
                checks.same("the file below after " + (i + 1), x.file(1), below);
                x.images().is(2);
            }
        }).broken("public int load(", "if (wrong == 0) {", "if (wrong == 0 || wrong == 4) {");
        on("nothing changes by a load that is wrong after one that was right", 5, x -> {
            x.stageAll(base());
            x.load().is(0);
            x.stage(22, 17, 0, 0, 0).is(1);
            x.stage(0, 7000, 1, 12, 3).is(1);
            x.load().is(1);
            x.read(0).is(5);
            x.stage(0, 7001, 1, 12, 3).is(1);
            x.load().is(0);
            x.read(0).is(17);
        }).broken("public int load(", "if (wrong == 0) {", "if (wrong <= 1) {");
    }

    private void firstOfMany() {
        load("the first of these: all six are wrong", 1,
            7, 1, 3, 64, 35, 7, 16, 2, 24, 28, 511, 1)
            .broken("int firstWrong(", "return 1;", "return 2;");
        load("the first of these: 2 to 6 are wrong", 2, 3, 64, 35, 7, 16, 2, 24, 28, 511, 1)
            .broken("int firstWrong(", "return 2;", "return 3;");
        load("the first of these: 3 to 6 are wrong", 3, 35, 7, 16, 2, 24, 28, 511, 1)
            .broken("int firstWrong(", "if (!isListRight(file)) {",
                "if (areCountsRight(file) && !isListRight(file)) {");
        load("the first of these: 4 to 6 are wrong", 4, 16, 2, 24, 28, 511, 1)
            .broken("int firstWrong(", "if (!areCountsRight(file)) {",
                "if (areFlagsRight(file) && !areCountsRight(file)) {");
        load("the first of these: 5 and 6 are wrong", 5, 24, 28, 511, 1)
            .broken("int firstWrong(", "if (!areFlagsRight(file)) {",
                "if (areOthersBlank(file) && !areFlagsRight(file)) {");
        load("the first of these: 6 alone is wrong", 6, 511, 1)
            .broken("int firstWrong(", "? 0 : 6", "? 0 : 7");
        load("the first of these: 2 before 4, a lead behind a count that is wrong", 2, 16, 2, 83, 60, 87, 61)
            .broken("int firstWrong(", "if (!areLeadsRight(file)) {",
                "if (!areLeadsRight(file) && file.count(0) == 1) {");
    }

    private void headerWords() {
        says("1: the header's words 0, 1, 2, 5 and 7 are as told, and word 6 is 0 exactly when "
            + "word 5 is.");
        load("all as told", 0, 91, 17).broken("private static boolean isHeaderRight(",
            "snapshots >= 0 &&", "snapshots == 0 &&");
        loadEach("word 0 beside 7001", 1, 0, 7000, 7002, 0, -7001, MIN)
            .broken("private static boolean isHeaderRight(", "== MAGIC_WORD", ">= MAGIC_WORD")
            .broken("private static boolean isHeaderRight(", "== MAGIC_WORD", "<= MAGIC_WORD");
        loadEach("word 1 beside 1", 1, 1, 0, 2, -1, MAX)
            .broken("private static boolean isHeaderRight(", "== VERSION_WORD", ">= VERSION_WORD")
            .broken("private static boolean isHeaderRight(", "== VERSION_WORD", "<= VERSION_WORD");
        loadEach("word 2: no size", 1, 2, 0, -1, 65, MIN, MAX)
            .broken("private static boolean isHeaderRight(", "size >= 1 && ", "size != 0 && ")
            .broken("private static boolean isHeaderRight(", "size >= 1", "size >= 0")
            .broken("private static boolean isHeaderRight(", "size <= MOST_BLOCKS",
                "size <= MOST_BLOCKS + 1");
        load("word 2: the least size that has all blocks, and the greatest", 0, 2, 64)
            .broken("private static boolean isHeaderRight(", "size <= MOST_BLOCKS",
                "size < MOST_BLOCKS");
        loadHigh("word 2: 1", 0, 2, 1)
            .broken("private static boolean isHeaderRight(", "size >= 1", "size >= 2");
        loadEach("word 5: -1, 5 and the numbers furthest out", 1, 5, -1, 5, MIN, MAX)
            .broken("private static boolean isHeaderRight(", "snapshots >= 0", "snapshots >= -1")
            .broken("private static boolean isHeaderRight(", "snapshots <= MOST_SNAPSHOTS",
                "snapshots <= MOST_SNAPSHOTS + 1");
        loadHigh("word 5: 0", 0).broken("private static boolean isHeaderRight(",
            "snapshots >= 0", "snapshots >= 1");
        load("word 5: 4", 0, 5, 4, 36, 15, 37, 1, 38, 16, 39, 2, 10, 17, 71, 1, 136, 1, 137, 1)
            .broken("private static boolean isHeaderRight(", "snapshots <= MOST_SNAPSHOTS",
                "snapshots < MOST_SNAPSHOTS");
        loadEach("word 7 beside 0", 1, 7, 1, -1, MIN)
            .broken("private static boolean isHeaderRight(", "file.at(HEADER, SPARE) == 0",
                "file.at(HEADER, SPARE) <= 0")
            .broken("private static boolean isHeaderRight(", "file.at(HEADER, SPARE) == 0",
                "file.at(HEADER, SPARE) >= 0");
    }

    private void headerList() {
        load("word 6 is 0, and word 5 isn't", 1, 6, 0)
            .broken("private static boolean isHeaderRight(",
                "(file.at(HEADER, SNAPSHOT_LIST) == 0) == (snapshots == 0)",
                "(file.at(HEADER, SNAPSHOT_LIST) == 0 || snapshots != 0)");
        load("word 5 is 0, and word 6 isn't", 1, 5, 0)
            .broken("private static boolean isHeaderRight(",
                "(file.at(HEADER, SNAPSHOT_LIST) == 0) == (snapshots == 0)",
                "(file.at(HEADER, SNAPSHOT_LIST) != 0 || snapshots == 0)");
        loadHigh("word 5 is 0, and word 6 is a number that is no cluster", 1, 6, -1)
            .broken("private static boolean isHeaderRight(",
                "(file.at(HEADER, SNAPSHOT_LIST) == 0) == (snapshots == 0)",
                "(file.at(HEADER, SNAPSHOT_LIST) <= 0) == (snapshots == 0)");
        load("word 6 is no cluster, but not 0: not this one", 2, 6, -1)
            .broken("private static boolean isHeaderRight(",
                "(file.at(HEADER, SNAPSHOT_LIST) == 0) == (snapshots == 0)",
                "(file.at(HEADER, SNAPSHOT_LIST) <= 0) == (snapshots == 0)");
        loadHigh("both are 0", 0).broken("private static boolean isHeaderRight(",
            "(file.at(HEADER, SNAPSHOT_LIST) == 0) == (snapshots == 0)",
            "file.at(HEADER, SNAPSHOT_LIST) != 0 && snapshots != 0");
    }

    private void leadsOut() {
        says("2: every cluster that is led to (by the header's words 3, 4, and 6 if that isn't 0, "
            + "the words of the count table that aren't 0, the tables of the snapshots in the "
            + "list, the tables and the leaves) is one of 1 .. 63, and none is led to for two "
            + "different uses: a table's words i for the same i lead to leaves of one use, words "
            + "for the same block to clusters of one use, all others are uses by themselves, each "
            + "for one place alone (two snapshots with one table are two uses).");
        leadsOfHeader();
        leadsOfLists();
        leadsOfTables();
    }

    /** Numbers that are no cluster from 1 on, some of them like c in their last bits. */
    private static int[] out(int c) {
        return new int[] {64, -1, 64 + c, c - 64, (1 << 29) + c, 1 << 29, MIN + c, MIN, MAX};
    }

    /** Words that lead to no cluster from 1 on, some of them like one that leads to c. */
    private static int[] leadsOut(int c) {
        return new int[] {1, 256, 257, -4, -3, 4 * c + 256, 4 * c + 257, 4 * c - 256,
            MIN + 4 * c, MIN + 4 * c + 1, MIN, MAX - 2, MAX - 3};
    }

    private void leadsOfHeader() {
        loadEach("the active table: 0", 2, 3, 0)
            .broken("private static boolean isHeaderRight(", "file.at(HEADER, SPARE) == 0",
                "file.at(HEADER, SPARE) == 0 && file.at(HEADER, ACTIVE_TABLE) > 0");
        loadEach("the active table: 64 and others", 2, 3, out(3))
            .broken("private boolean claim(", "cluster < 1 || cluster > LAST_CLUSTER", "cluster == 0")
            .broken("private boolean claim(", "cluster > LAST_CLUSTER",
                "cluster * EIGHT >= FILE_WORDS");
        loadEach("the count table: 0", 2, 4, 0)
            .broken("private static boolean isHeaderRight(", "file.at(HEADER, SPARE) == 0",
                "file.at(HEADER, SPARE) == 0 && file.at(HEADER, COUNT_TABLE) > 0");
        loadEach("the count table: 64 and others", 2, 4, out(1))
            .broken("private boolean areHeaderLeadsRight(",
                "claim(file.at(HEADER, COUNT_TABLE), USE", "claim(file.at(HEADER, COUNT_TABLE) & 63, USE")
            .broken("private boolean claim(", "cluster < 1 || cluster > LAST_CLUSTER", "cluster == 0");
        loadEach("the list: 64 and others", 2, 6, out(4))
            .broken("private boolean areHeaderLeadsRight(", "claim(list,", "claim(list & 63,");
    }

    private void leadsOfLists() {
        loadEach("a count cluster, the first: 64 and others", 2, 8, out(2))
            .broken("private boolean areCountLeadsRight(", "claim(keeper,", "claim(keeper & 63,");
        loadEach("a count cluster, the last: 64 and others", 2, 15, out(15))
            .broken("private boolean areCountLeadsRight(", "i < EIGHT", "i < LAST_OF_EIGHT");
        loadEach("a snapshot's table, the first: 0", 2, 32, 0)
            .broken("private static boolean isHeaderRight(", "file.at(HEADER, SPARE) == 0",
                "file.at(HEADER, SPARE) == 0"
                + " && (snapshots == 0 || file.at(file.at(HEADER, SNAPSHOT_LIST), 0) != 0)");
        loadEach("a snapshot's table, the first: 64 and others", 2, 32, out(5))
            .broken("private boolean areListLeadsRight(", "claim(table,", "claim(table & 63,");
        loadEach("a snapshot's table, the last: 64 and others", 2, 34, out(6))
            .broken("private boolean areListLeadsRight(", "i < snapshots", "i < snapshots - 1");
    }

    private void leadsOfTables() {
        loadEach("a leaf, by the active table's first word: 0, 64 and others", 2, 24, leadsOut(7))
            .broken("private boolean areTableLeadsRight(", "claim(clusterLedTo(word),",
                "claim(clusterLedTo(word) & 63,")
            .broken("private static int clusterOf(", "lead >> 2", "lead << 1 >>> 3");
        loadEach("a leaf, by a snapshot's table: 0, 64 and others", 2, 49, leadsOut(10))
            .broken("private boolean areListLeadsRight(",
                "|| !areTableLeadsRight(file, table)", "|| i == 0 && !areTableLeadsRight(file, table)");
        loadEach("a block's cluster, by a leaf's first word: 0, 64 and others", 2, 56, leadsOut(11))
            .broken("private boolean areLeafLeadsRight(", "claim(clusterLedTo(word),",
                "claim(clusterLedTo(word) & 63,")
            .broken("private boolean claim(", "cluster < 1", "cluster < 0")
            .broken("private boolean claim(", "cluster > LAST_CLUSTER", "cluster > CLUSTERS");
        loadEach("a block's cluster, by a snapshot's leaf: 0, 64 and others", 2, 73, leadsOut(13))
            .broken("private boolean areTableLeadsRight(",
                "|| !areLeafLeadsRight(", "|| table == 3 && !areLeafLeadsRight(");
    }

    private void leadsAtTheEnds() {
        on("1 is one: the active table", 5, x -> loads(x, tablesExchanged(), 0))
            .broken("private boolean claim(", "cluster < 1", "cluster <= 1");
        load("63 is one: a block's cluster", 0,
            83, 252, 112, 0, 119, 0, 70, 0, 504, -1, 511, 8, 15, 15, 71, 1, 127, 3)
            .broken("private boolean claim(", "cluster > LAST_CLUSTER", "cluster >= LAST_CLUSTER");
        loadHigh("63 is one: the count table", 0)
            .broken("private boolean claim(", "cluster > LAST_CLUSTER", "cluster >= LAST_CLUSTER");
        load("63 is one: a leaf", 0,
            24, 253, 56, 0, 57, 0, 58, 0, 504, 45, 505, 52, 506, 2, 23, 0, 15, 15, 71, 1, 127, 1)
            .broken("private boolean claim(", "cluster > LAST_CLUSTER", "cluster >= LAST_CLUSTER");
        load("a word of the count table that is 0 leads to none", 0, 91, 1)
            .broken("private boolean areCountLeadsRight(", "keeper != 0 && !claim", "!claim");
        load("the list's places behind the last snapshot lead to none", 3, 36, 3)
            .broken("private boolean areListLeadsRight(", "i < snapshots", "i <= snapshots");
        loadHigh("the header's word 6 that is 0 leads to none", 0)
            .broken("private boolean areHeaderLeadsRight(", "list == 0 ||", "");
    }

    private void usesAlone() {
        loadEach("the active table is also: the count table, its clusters, the list, a snapshot's "
            + "table, a leaf, a block's cluster", 2, 3, 1, 2, 8, 4, 5, 6, 7, 9, 10, 11, 14)
            .broken("private boolean claim(", "uses[cluster] != 0 && uses[cluster] != use", "false")
            .broken("private boolean areHeaderLeadsRight(",
                "claim(file.at(HEADER, ACTIVE_TABLE), USE_ACTIVE_TABLE)", "true");
        loadEach("the count table is also: the active table, the list, a snapshot's table", 2, 4,
            3, 4, 5, 6)
            .broken("private boolean areHeaderLeadsRight(",
                "claim(file.at(HEADER, COUNT_TABLE), USE_COUNT_TABLE)", "true");
        load("the list is also the active table", 2, 5, 1, 6, 3)
            .broken("private boolean areHeaderLeadsRight(", "claim(list, USE_SNAPSHOT_LIST)",
                "true")
            .broken("", "USE_SNAPSHOT_LIST = 3", "USE_SNAPSHOT_LIST = 1");
        load("the list is also its own snapshot's table", 2, 5, 1, 6, 60, 480, 60)
            .broken("", "USE_SNAPSHOT_LIST = 3", "USE_SNAPSHOT_LIST = 4");
        loadEach("a count cluster is also: another one, and all else", 2, 9,
            1, 2, 3, 4, 5, 6, 7, 9, 10, 11, 12, 13, 14)
            .broken("private boolean areCountLeadsRight(", "USE_COUNT_CLUSTERS + i", "USE_COUNT_CLUSTERS")
            .broken("private boolean areCountLeadsRight(", "USE_COUNT_CLUSTERS + i", "USE_COUNT_TABLE");
        loadEach("one count cluster in the first place and the last", 2, 15, 2, 8)
            .broken("private boolean areCountLeadsRight(", "USE_COUNT_CLUSTERS + i",
                "USE_COUNT_CLUSTERS + i % LAST_OF_EIGHT")
            .broken("private boolean areCountLeadsRight(", "USE_COUNT_CLUSTERS + i", "USE_COUNT_CLUSTERS");
        loadEach("two snapshots with one table are two uses", 2, 34, 5)
            .broken("private boolean areListLeadsRight(", "USE_SNAPSHOT_TABLES + i",
                "USE_SNAPSHOT_TABLES");
        loadEach("a snapshot's table is also: the active one, and all else", 2, 32,
            1, 2, 3, 4, 6, 7, 8, 9, 10, 11, 12, 13, 14)
            .broken("private boolean areListLeadsRight(", "USE_SNAPSHOT_TABLES + i",
                "USE_ACTIVE_TABLE");
        load("the fourth snapshot's table is also an empty leaf", 2,
            5, 4, 36, 15, 37, 1, 38, 18, 39, 2, 24, 72)
            .broken("private boolean areListLeadsRight(", "USE_SNAPSHOT_TABLES + i",
                "USE_SNAPSHOT_TABLES + i + i / 3");
        load("the third snapshot's table is also an empty leaf", 2, 5, 3, 36, 15, 37, 1, 24, 60)
            .broken("", "USE_LEAVES = USE_SNAPSHOT_TABLES + MOST_SNAPSHOTS",
                "USE_LEAVES = USE_SNAPSHOT_TABLES + 2");
        load("the last count cluster is also an empty leaf", 2, 15, 15, 71, 1, 24, 60)
            .broken("", "USE_COUNT_CLUSTERS = USE_LEAVES + EIGHT",
                "USE_COUNT_CLUSTERS = USE_LEAVES - LAST_OF_EIGHT");
    }

    private void usesOfTables() {
        load("one leaf for i = 0 in two tables is one use: only its counts are wrong", 4, 24, 36)
            .broken("private boolean areTableLeadsRight(", "USE_LEAVES + i",
                "USE_LEAVES + (table == 3 ? 0 : i + 1)");
        load("one leaf for i = 0 in two tables, with the counts as told, is right", 0,
            24, 36, 23, 0, 56, 0, 57, 0, 58, 0, 65, 3, 67, 0, 68, 3, 88, 0)
            .broken("private boolean areTableLeadsRight(", "USE_LEAVES + i",
                "USE_LEAVES + (table == 3 ? 0 : i + 1)");
        load("one leaf for i = 0 and i = 1 of one table", 2, 24, 72, 25, 72)
            .broken("private boolean areTableLeadsRight(", "USE_LEAVES + i", "USE_LEAVES");
        load("one leaf for i = 0 and i = 1 of two tables", 2, 40, 72, 25, 72)
            .broken("private boolean areTableLeadsRight(", "USE_LEAVES + i", "USE_LEAVES");
        load("one leaf for i = 0 and i = 7 of the greatest size", 2, 2, 64, 24, 72, 31, 72)
            .broken("private boolean areTableLeadsRight(", "USE_LEAVES + i",
                "USE_LEAVES + i % LAST_OF_EIGHT");
        load("one cluster for block 0 in two leaves is one use: only its counts are wrong", 4, 56, 48)
            .broken("private boolean areLeafLeadsRight(", "USE_BLOCKS + first + i",
                "USE_BLOCKS + leaf");
        load("one cluster for block 0 in two leaves, with the counts as told, is right", 0,
            56, 48, 67, 0, 68, 3, 88, 0)
            .broken("private boolean areLeafLeadsRight(", "USE_BLOCKS + first + i",
                "USE_BLOCKS + leaf * EIGHT + i");
        load("one cluster for the blocks 0 and 1 of one leaf", 2, 56, 52)
            .broken("private boolean areLeafLeadsRight(", "USE_BLOCKS + first + i",
                "USE_BLOCKS + first");
        load("one cluster for the blocks 1 and 0 of two leaves", 2, 57, 48)
            .broken("private boolean areLeafLeadsRight(", "USE_BLOCKS + first + i",
                "USE_BLOCKS + first");
        load("one cluster for the blocks 0 and 8, the same place of two leaves", 2, 80, 44)
            .broken("private boolean areLeafLeadsRight(", "USE_BLOCKS + first + i",
                "USE_BLOCKS + i");
        loadEach("a leaf is also: the tables, the count cluster, a block's cluster", 2, 24,
            4, 8, 12, 16, 20, 24, 32, 44, 48, 52, 56)
            .broken("private boolean claim(", "uses[cluster] != 0 && uses[cluster] != use", "false");
        loadEach("a block's cluster is also: the tables, the count cluster, a leaf", 2, 56,
            4, 8, 12, 16, 20, 24, 28, 32, 36, 40)
            .broken("", "USE_BLOCKS = USE_COUNT_CLUSTERS + EIGHT", "USE_BLOCKS = USE_LEAVES")
            .broken("private boolean claim(", "uses[cluster] != 0 && uses[cluster] != use", "false");
    }

    /** Cluster 30, blank and led to for nothing else in pairFile, is led to for a use. */
    private interface Use {
        void on(int[] words);
    }

    /**
     * Size 64; clusters: 63 count table, 61 and 62 counts, 60 active table, 59 list, 50 .. 53
     * the four snapshots' tables, 40 .. 47 the leaves of the tables 52 and 53.
     */
    private static int[] pairFile() {
        int[] w = high(5, 4, 6, 59);
        put(w, 59, 50, 1, 51, 2, 52, 3, 53, 4);
        for (int i = 0; i < 8; i++) {
            w[8 * 52 + i] = 4 * (40 + i);
            w[8 * 53 + i] = 4 * (40 + i);
        }
        return w;
    }

    private static List<Use> uses() {
        List<Use> uses = new ArrayList<>();
        uses.add(w -> w[3] = 30);
        for (int j = 0; j < 4; j++) {
            int p = 8 * 59 + 2 * j;
            uses.add(w -> w[p] = 30);
        }
        for (int k = 0; k < 8; k++) {
            int p = 8 * 63 + k;
            uses.add(w -> w[p] = 30);
        }
        for (int i = 0; i < 8; i++) {
            int p = i;
            uses.add(w -> {
                w[8 * 60 + p] = 120;
                w[8 * 50 + p] = 120;
            });
        }
        for (int block = 0; block < 64; block++) {
            int p = 8 * 40 + block;
            uses.add(w -> w[p] = 120);
        }
        return uses;
    }

    /** What load answers, without more calls than that and those on the stage. */
    private static long loaded(Checks checks, int[] words) {
        Calls x = new Calls(checks, 5);
        x.stageAll(words);
        return x.load().got();
    }

    private void usesInPairs() {
        test("each use alone is no second one: only the counts are wrong", checks -> {
            for (Use use : uses()) {
                int[] words = pairFile();
                use.on(words);
                checks.due("load()", loaded(checks, words), 4);
            }
        }).broken("private boolean claim(", "uses[cluster] != use", "uses[cluster] != -1");
        test("the active table, each snapshot's, each count cluster, each leaf and each block's "
            + "cluster, two of them in one", checks -> {
                List<Use> uses = uses();
                for (int i = 0; i < uses.size(); i++) {
                    for (int j = 0; j < i; j++) {
                        int[] words = pairFile();
                        uses.get(i).on(words);
                        uses.get(j).on(words);
                        checks.due("load() with the uses " + i + " and " + j,
                            loaded(checks, words), 2);
                    }
                }
            }).broken("private boolean areTableLeadsRight(", "USE_LEAVES + i", "USE_LEAVES - i")
            .broken("private boolean areLeafLeadsRight(", "USE_BLOCKS + first + i",
                "USE_BLOCKS + first - i")
            .broken("", "USE_COUNT_CLUSTERS = USE_LEAVES + EIGHT",
                "USE_COUNT_CLUSTERS = USE_LEAVES + LAST_OF_EIGHT")
            .broken("", "USE_BLOCKS = USE_COUNT_CLUSTERS + EIGHT",
                "USE_BLOCKS = USE_COUNT_CLUSTERS + LAST_OF_EIGHT");
    }

    private void words() {
        says("The words of tables and leaves are 0, 2 (in a leaf), or 4 * c + f with f 0 or 1; "
            + "those for blocks or leaves that the size doesn't have are 0.");
        loadEach("a table's words: 2", 2, 24, 2, 2)
            .broken("private boolean areTableLeadsRight(", "if (word == 0) {",
                "if (word == 0 || word == ZERO) {");
        loadEach("a table's words: f is 2 or 3", 2, 24, 30, 31, 3, 6, 7, -2, -1, MAX, MAX - 1)
            .broken("private static int clusterLedTo(", "(word & 2) == 0 ?", "(word & 3) != 2 ?")
            .broken("private static int clusterLedTo(", "(word & 2) == 0 ?", "(word & 3) != 3 ?");
        loadHigh("a table's words: f is 2, and cluster 1 is led to for nothing", 2, 480, 6)
            .broken("private static int clusterLedTo(", ": 0;", ": 1;");
        loadEach("a snapshot's table's words: 2, f is 2 or 3", 2, 41, 2, 3, 42, 43)
            .broken("private static int clusterLedTo(", "(word & 2) == 0 ?", "true ?");
        loadEach("a leaf's words: f is 2 or 3", 2, 56, 46, 47, 3, 6, 7, -2, -1, MAX, MAX - 1)
            .broken("private static int clusterLedTo(", "(word & 2) == 0 ?", "(word & 3) != 2 ?")
            .broken("private static int clusterLedTo(", "(word & 2) == 0 ?", "(word & 3) != 3 ?");
        loadEach("a leaf's words: 1 and 3", 2, 63, 1, 3)
            .broken("private boolean areLeafLeadsRight(", "word != ZERO &&", "word > ZERO + 1 &&");
        loadEach("a leaf's words: 0 and 2, in its last place", 0, 63, 0, 2)
            .broken("private boolean areLeafLeadsRight(", "word != ZERO &&", "")
            .broken("private boolean areLeafLeadsRight(", "word == ABSENT", "word == ABSENT - 1");
        loadEach("a table's words: 0", 0, 31, 0)
            .broken("private boolean areTableLeadsRight(", "if (word == 0) {",
                "if (word == -1) {");
    }

    private void wordsWithoutBlock() {
        load("the block behind the last: ZERO", 2, 84, 2)
            .broken("private boolean areLeafLeadsRight(", "first + i >= file", "first + i > file");
        load("the block behind the last: a cluster", 2, 84, 61)
            .broken("private boolean areLeafLeadsRight(",
                "if (first + i >= file.at(HEADER, SIZE)) {\n                    return false;",
                "if (first + i >= file.at(HEADER, SIZE)) {\n                    continue;");
        load("the last place of the last leaf: ZERO", 2, 87, 2)
            .broken("private boolean areLeafLeadsRight(", "i < EIGHT", "i < LAST_OF_EIGHT");
        load("the last block: ZERO", 0, 2, 13, 84, 2)
            .broken("private boolean areLeafLeadsRight(", "first + i >= file", "first + i + 1 >= file");
        load("a size that is one less than its last block asks", 2, 2, 11)
            .broken("private boolean areLeafLeadsRight(", "first + i >= file", "first + i > file");
        load("a leaf behind the last: word 2 of the active table", 2, 26, 61)
            .broken("private boolean areTableLeadsRight(",
                "if (EIGHT * i >= file.at(HEADER, SIZE)\n                    ||", "if (");
        load("an empty leaf behind the last, at its edge", 2, 2, 8, 81, 0, 83, 0, 70, 0, 112, 0, 119, 0)
            .broken("private boolean areTableLeadsRight(", "EIGHT * i >= file", "EIGHT * i > file");
        load("an empty leaf that has one block, at its edge", 0,
            2, 9, 81, 0, 83, 0, 70, 0, 112, 0, 119, 0)
            .broken("private boolean areTableLeadsRight(", "EIGHT * i >= file",
                "EIGHT * i + 1 >= file");
        load("the last word of a snapshot's table", 2, 47, 61)
            .broken("private boolean areTableLeadsRight(", "i < EIGHT", "i < LAST_OF_EIGHT");
        load("the last block of the greatest size", 0, 2, 64, 31, 61, 71, 1, 127, 2)
            .broken("private boolean areTableLeadsRight(", "i < EIGHT", "i < LAST_OF_EIGHT");
    }

    private void list() {
        says("3: the names differ, and the other words of the snapshot list are 0.");
        load("the names furthest out differ", 0, 33, MIN, 35, MAX)
            .broken("private static boolean isListRight(", "file.at(list, i) == file.at(list, j)",
                "file.at(list, i) + 1 == file.at(list, j)");
        load("a name 0, and 0 behind the last one", 0, 33, 0)
            .broken("private static boolean isListRight(", "int end = 2 * file.at(HEADER, SNAPSHOTS);",
                "int end = EIGHT;");
        load("one name for two", 3, 35, 7)
            .broken("private static boolean isListRight(", "i = 1; i < end", "i = 1; i < end - 2");
        load("one name for the first and the fourth", 3,
            5, 4, 36, 15, 37, 1, 38, 16, 39, 7, 10, 17, 71, 1, 136, 1, 137, 1)
            .broken("private static boolean isListRight(", "int j = 1", "int j = 3")
            .broken("private static boolean isListRight(", "i < end; i += 2", "i < end - 2; i += 2");
        test("one name for any two of four", checks -> {
            for (int i = 1; i < 4; i++) {
                for (int j = 0; j < i; j++) {
                    int[] words = pairFile();
                    words[8 * 59 + 2 * i + 1] = words[8 * 59 + 2 * j + 1];
                    loads(new Calls(checks, 5), words, 3);
                }
            }
        }).broken("private static boolean isListRight(", "j += 2", "j += 3");
        load("names that are the clusters of their tables", 0, 33, 5, 35, 6)
            .broken("private static boolean isListRight(", "j += 2", "j += 1");
        load("a name that is a table's cluster", 0, 33, 6, 35, 5)
            .broken("private static boolean isListRight(", "file.at(list, i) == file.at(list, j)",
                "file.at(list, i) == file.at(list, j - 1)");
        loadEach("the first of the other words", 3, 36, 1, -1, 15)
            .broken("boolean isBlank(", "int i = fromPlace", "int i = fromPlace + 1");
        loadEach("the last of the other words", 3, 39, 1, MIN)
            .broken("boolean isBlank(", "i < EIGHT", "i < LAST_OF_EIGHT");
        load("one snapshot less, and the words of the second", 3, 5, 1)
            .broken("private static boolean isListRight(", "file.isBlank(list, end)",
                "file.isBlank(list, end + 2)");
        load("four snapshots: no other words", 0,
            5, 4, 36, 15, 37, 1, 38, 16, 39, 2, 10, 17, 71, 1, 136, 1, 137, 1)
            .broken("private static boolean isListRight(", "file.isBlank(list, end)",
                "file.isBlank(list, end - 1)");
        loadHigh("no snapshot: no list, and no word of one", 0)
            .broken("private static boolean isListRight(", "end == 0 ||", "");
    }

    private void counts() {
        says("4: all counts are as told.");
        loadEach("the header's", 4, 16, 0, 2, -1, MIN)
            .broken("private boolean areCountsRight(", "int i = 0", "int i = 1");
        test("each of the first sixteen, one more, one less and far out", checks -> {
            for (int p = 16; p < 24; p++) {
                eachWrong(checks, p);
                eachWrong(checks, p + 48);
            }
        }).broken("private boolean areCountsRight(", "file.count(i) != counts[i]",
            "file.count(i) > counts[i]")
            .broken("private boolean areCountsRight(", "file.count(i) != counts[i]",
                "file.count(i) < counts[i]")
            .broken("private boolean areCountsRight(", "file.count(i) != counts[i]",
                "i != 14 && file.count(i) != counts[i]");
        load("a leaf's is of tables: three lead to it", 0, 66, 3)
            .broken("private boolean claim(", "counts[cluster]++;", "counts[cluster] = 1;");
        load("a leaf's is not 1 for three tables", 4, 66, 1)
            .broken("private boolean areCountsRight(", "file.count(i) != counts[i]",
                "Math.min(1, file.count(i)) != Math.min(1, counts[i])");
        load("a block's is of tables, not of leaves: three, by two leaves", 4, 69, 2)
            .broken("private boolean areCountsRight(", "file.count(i) != counts[i]",
                "i != 13 && file.count(i) != counts[i]");
        load("a block's is of tables: three, by one leaf", 4, 70, 1)
            .broken("private boolean areCountsRight(", "file.count(i) != counts[i]",
                "i != 14 && file.count(i) != counts[i]");
    }

    private static void eachWrong(Checks checks, int p) {
        int right = base()[p];
        for (int wrong : new int[] {right + 1, right - 1, MIN}) {
            loads(new Calls(checks, 5), base(p, wrong), 4);
        }
    }

    private void countsAtTheEnds() {
        load("a count of 0 for a cluster that isn't led to", 4, 71, 1)
            .broken("private boolean areCountsRight(", "file.count(i) != counts[i]",
                "counts[i] != 0 && file.count(i) != counts[i]");
        load("where a word of the count table is 0 the counts are 0: the second", 4, 9, 0)
            .broken("private boolean areCountsRight(", "i < CLUSTERS", "i < EIGHT");
        load("where a word of the count table is 0 the counts are 0: the first", 4, 8, 0)
            .broken("private boolean areCountsRight(", "file.count(i) != counts[i]",
                "file.count(i) > counts[i]");
        loadHigh("the last cluster's, 0 for one that is led to", 4, 503, 0)
            .broken("private boolean areCountsRight(", "i < CLUSTERS", "i < LAST_CLUSTER");
        load("the last cluster's, 1 for one that isn't led to", 4, 15, 15, 71, 1, 127, 1)
            .broken("private boolean areCountsRight(", "i < CLUSTERS", "i < LAST_CLUSTER");
        load("a count cluster that counts nothing is one, for the last eight", 0, 15, 15, 71, 1)
            .broken("private boolean areCountLeadsRight(", "i < EIGHT", "i < LAST_OF_EIGHT");
        load("a count cluster has the count 1", 4, 15, 15, 71, 0)
            .broken("private boolean areCountsRight(", "file.count(i) != counts[i]",
                "i != 15 && file.count(i) != counts[i]");
        loadEach("the header has the count 1, though none leads to it", 0, 16, 1)
            .broken("private boolean areLeadsRight(", "counts[HEADER] = 1;", "");
    }

    private void flags() {
        says("5: every f is as told.");
        load("0 for a count of 1, the active table's first word", 5, 24, 28)
            .broken("private static boolean hasFlags(", "use == USE_ACTIVE_TABLE", "use < 0");
        load("1 for a count of 3, the active table's last leaf", 5, 25, 41)
            .broken("private boolean areFlagsRightIn(", "if (word != leadTo(clusterOf(word), alone)) {",
                "if (word < leadTo(clusterOf(word), alone)) {");
        load("1 for a count of 2, a snapshot's table", 5, 40, 37)
            .broken("private static boolean hasFlags(", "use >= USE_SNAPSHOT_TABLES",
                "use > USE_SNAPSHOT_TABLES");
        load("1 for a count of 3, the last snapshot's table", 5, 49, 41)
            .broken("private static boolean hasFlags(", "use >= USE_SNAPSHOT_TABLES",
                "use > USE_SNAPSHOT_TABLES + 1");
        load("1 for a count of 3, the fourth snapshot's table", 5,
            5, 4, 36, 15, 37, 1, 38, 16, 39, 2, 10, 17, 71, 1, 136, 1, 137, 1, 129, 41, 66, 4,
            69, 3, 70, 4)
            .broken("private static boolean hasFlags(", "use >= USE_SNAPSHOT_TABLES",
                "use != USE_LEAVES - 1 && use >= USE_SNAPSHOT_TABLES");
        load("0 for a count of 1, a leaf's first word", 5, 56, 44)
            .broken("private static boolean hasFlags(", "use < USE_LEAVES + EIGHT",
                "use < USE_LEAVES");
        load("1 for a count of 3, a leaf's word", 5, 57, 53)
            .broken("private boolean areFlagsRightIn(", "if (word != leadTo(clusterOf(word), alone)) {",
                "if (word < leadTo(clusterOf(word), alone)) {");
        load("1 for a count of 2, a snapshot's leaf", 5, 72, 49)
            .broken("private boolean areFlagsRightIn(", "if (word != leadTo(clusterOf(word), alone)) {",
                "if (word < leadTo(clusterOf(word), alone)) {");
        load("1 for a count of 3, the last block's word", 5, 83, 57)
            .broken("private static boolean hasFlags(", "use < USE_LEAVES + EIGHT",
                "use < USE_LEAVES + 1");
        load("0 for a count of 1, the last word of all: leaf 7 and block 63", 5,
            2, 64, 31, 61, 71, 1, 127, 64, 10, 17, 136, 1, 137, 1)
            .broken("private boolean areFlagsRightIn(", "i < EIGHT", "i < LAST_OF_EIGHT")
            .broken("private static boolean hasFlags(", "use < USE_LEAVES + EIGHT",
                "use < USE_LEAVES + LAST_OF_EIGHT");
        load("0 for a count of 1 in the last cluster: a leaf", 5,
            24, 253, 56, 0, 57, 0, 58, 0, 504, 44, 505, 52, 506, 2, 23, 0, 15, 15, 71, 1, 127, 1)
            .broken("private boolean areFlagsRight(", "i < CLUSTERS", "i < LAST_CLUSTER");
        test("counts of 3 and 4 are no words with an f", checks -> {
            for (int snapshots = 2; snapshots < 4; snapshots++) {
                int most = snapshots;
                int[] words = file(checks, 9, 0, x -> {
                    x.write(0, 1).is(2);
                    for (int name = 0; name < most; name++) {
                        x.snapshot(name).is(0);
                    }
                });
                checks.due("word(0, 20)", words[20], snapshots + 1);
                loads(new Calls(checks, 5), words, 0);
            }
        }).broken("private static boolean hasFlags(", "use < USE_LEAVES + EIGHT",
            "use <= USE_LEAVES + EIGHT");
        load("2 in a leaf has no f, and its blocks' words have none", 0, 58, 2, 88, 28, 89, 29)
            .broken("private static boolean isLead(", "word > ZERO", "word >= ZERO")
            .broken("private static boolean hasFlags(", "use < USE_LEAVES + EIGHT", "use > 0");
    }

    private void blanks() {
        says("6: the words of clusters that aren't led to and aren't the header are 0.");
        loadEach("the last word of all", 6, 511, 1, -1, MIN)
            .broken("private boolean areOthersBlank(", "i < CLUSTERS", "i < LAST_CLUSTER")
            .broken("boolean isBlank(", "i < EIGHT", "i < LAST_OF_EIGHT");
        loadEach("the first word behind those that are led to", 6, 120, 1, MAX)
            .broken("boolean isBlank(", "int i = fromPlace", "int i = fromPlace + 1");
        loadHigh("the first cluster behind the header", 6, 8, 1)
            .broken("private boolean areOthersBlank(", "int i = 1", "int i = 2");
        loadEach("a block's cluster may have any words", 0, 95, 1, -1, MIN, MAX)
            .broken("private boolean areOthersBlank(", "uses[i] == 0 &&",
                "(uses[i] == 0 || i == 11) &&");
        loadHigh("words where a count table might be, that isn't led to", 6, 15, 62)
            .broken("private boolean areOthersBlank(", "int i = 1", "int i = 2");
        load("a snapshot that the list has no more: its table", 6,
            5, 1, 34, 0, 35, 0, 22, 0, 65, 1, 66, 2, 68, 1, 69, 2, 70, 2, 40, 37, 72, 49)
            .broken("int firstWrong(", "return areOthersBlank(file) ? 0 : 6;", "return 0;");
    }
}
