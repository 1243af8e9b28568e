/** The sentences above the promises: the number of calls, the file, its tables and its counts. */
final class TermsSentences extends Sentences {
    TermsSentences() {
        under("What it is");
        calls();
        under("Terms");
        file();
        size();
        header();
        countTable();
        list();
        table();
        leaf();
        wordsWithoutBlock();
        flags();
        flagsThatChange();
        counts();
        freeWords();
    }

    private void calls() {
        says("An object is used for at most 512 calls after it has been made; what later calls "
            + "answer is free.");
        on("the 512th call is right", 64, x -> {
            for (int n = 0; n < 511; n++) {
                x.write(n % 8, n).is(n == 0 ? 2 : 0);
            }
            x.read(510 % 8).is(510);
        }).broken("", "    public int write(int address, int value) {\n",
            "    private int calls;\n    public int write(int address, int value) {\n"
            + "        if (++calls > 510) { return BAD; }\n");
    }

    private void file() {
        says("A FILE is 512 words (ints), in 64 CLUSTERS of 8: cluster c is the words "
            + "8 * c .. 8 * c + 7.");
        on("the last word of the last cluster", 64, x -> {
            x.fill(0);
            x.write(303, 77).is(0);
            x.word(0, 511).is(77);
        }).broken("private int leastFree(", "cluster < LAST_CLUSTER", "cluster < LAST_CLUSTER - 1");
        on("the last word of a cluster and the first of the next", 2, x -> {
            x.write(0, 5).is(2);
            x.write(7, 6).is(0);
            x.write(8, 9).is(1);
            x.cluster(0, 5, 5, 0, 0, 0, 0, 0, 0, 6);
            x.cluster(0, 6, 9);
        }).broken("public int word(", "p % EIGHT", "p % LAST_OF_EIGHT");
    }

    private void size() {
        says("A virtual disk of SIZE s (1 .. 64) has s BLOCKS (0 .. s - 1) of 8 words: its "
            + "ADDRESSES are 0 .. 8 * s - 1, address a is word a % 8 of block a / 8.");
        on("the least size, the last address and those beside", 1, x -> {
            x.write(0, 1).is(2);
            x.write(7, 2).is(0);
            x.write(8, 3).is(BAD);
            x.write(-1, 3).is(BAD);
            x.read(7).is(2);
            x.read(0).is(1);
        }).broken("boolean hasAddress(", "EIGHT * blocks()", "EIGHT * blocks() - 1")
            .broken("boolean hasAddress(", "address < EIGHT", "address <= EIGHT")
            .broken("boolean hasAddress(", "address >= 0", "address >= -1");
        on("the least size, the only block and those beside", 1, x -> {
            x.write(0, 1).is(2);
            x.discard(-1).is(BAD);
            x.discard(1).is(BAD);
            x.read(0).is(1);
            x.discard(0).is(0);
            x.read(0).is(0);
        }).broken("boolean hasBlock(", "block >= 0", "block >= -1")
            .broken("boolean hasBlock(", "block < blocks()", "block <= blocks()");
        on("the greatest size, the last address and block", 64, x -> {
            x.write(511, 5).is(2);
            x.write(512, 6).is(BAD);
            x.read(511).is(5);
            x.discard(64).is(BAD);
            x.discard(63).is(0);
            x.read(511).is(0);
        }).broken("", "MOST_BLOCKS = 64", "MOST_BLOCKS = 63")
            .broken("boolean hasBlock(", "block < blocks()", "block < blocks() - 1");
        on("the last address of a block and the first of the next", 2, x -> {
            x.write(7, 1).is(2);
            x.write(8, 2).is(1);
            x.read(0).is(0);
            x.read(7).is(1);
            x.read(8).is(2);
            x.read(15).is(0);
        }).broken("int putWord(", "address % EIGHT", "address & 6")
            .broken("int shown(", "address % EIGHT", "0");
    }

    private void header() {
        says("Cluster 0 is the HEADER: word 0 is 7001, word 1 is 1, word 2 the size, word 3 the "
            + "cluster of the ACTIVE TABLE, word 4 that of the COUNT TABLE, word 5 the number of "
            + "snapshots (0 .. 4), word 6 the cluster of the SNAPSHOT LIST (0 when there is no "
            + "snapshot), word 7 is 0.");
        on("no snapshot", 10, x -> x.cluster(0, 0, 7001, 1, 10, 3, 1, 0, 0, 0))
            .broken("", "MAGIC_WORD = 7001", "MAGIC_WORD = 7002")
            .broken("", "VERSION_WORD = 1", "VERSION_WORD = 0")
            .broken("void format(", "ACTIVE_TABLE, 3", "ACTIVE_TABLE, 12");
        on("the most snapshots, four", 10, x -> {
            for (int name = 0; name < 4; name++) {
                x.snapshot(name).is(0);
            }
            x.cluster(0, 0, 7001, 1, 10, 3, 1, 4, 4, 0);
        }).broken("int addSnapshot(", "SNAPSHOTS, number + 1", "SNAPSHOTS, number");
        on("no snapshot any more", 10, x -> {
            x.snapshot(9).is(0);
            x.delete(9).is(0);
            x.cluster(0, 0, 7001, 1, 10, 3, 1, 0, 0, 0);
        }).broken("void removeSnapshot(", "file.put(HEADER, SNAPSHOT_LIST, 0);", "");
    }

    private void countTable() {
        says("COUNT TABLE: word k (0 .. 7) is 0, or the cluster of the COUNT CLUSTER for the "
            + "clusters 8 * k .. 8 * k + 7, whose word j is the COUNT of cluster 8 * k + j; where "
            + "word k is 0, these counts are 0.");
        on("the last of the first eight clusters, and the first of the next", 64, x -> {
            x.write(0, 1).is(2);
            x.write(64, 1).is(2);
            x.cluster(0, 1, 2);
            x.cluster(0, 2, 1, 1, 1, 1, 1, 1, 1, 1);
            x.write(128, 1).is(2);
            x.cluster(0, 1, 2, 8);
            x.cluster(0, 8, 1, 1, 1);
        }).broken("int take()", "countTable, cluster / EIGHT, cluster", "countTable, 7, cluster");
        on("the last word, for the clusters 56 .. 63", 64, x -> {
            x.fill(1);
            x.cluster(0, 1, 2, 8, 16, 24, 32, 40, 48, 56);
            x.cluster(0, 56, 1, 1, 1, 1, 1, 1, 1, 0);
            x.write(296, 1).is(1);
            x.cluster(0, 56, 1, 1, 1, 1, 1, 1, 1, 1);
        }).broken("void addToCount(", "put(keeper, cluster % EIGHT, count)",
            "put(keeper, cluster % LAST_OF_EIGHT, count)");
        on("the last word is 0 while all of 56 .. 63 have count 0", 64, x -> {
            x.fill(7);
            x.cluster(0, 1, 2, 8, 16, 24, 32, 40, 48, 0);
            x.used().is(56);
        }).broken("int count(", "keeper == 0 ? 0", "keeper == 0 ? 1")
            .broken("void format(", "put(1, 0, 2);", "put(1, 0, 2); put(1, 7, 56);");
        on("where the words are 0 no count is read", 1, x -> x.used().is(4))
            .broken("int count(", "keeper == 0 ? 0 : at(", "at(");
    }

    private void list() {
        says("SNAPSHOT LIST: words 2 * j and 2 * j + 1 are the cluster of the table of the j-th "
            + "snapshot (in the order in which they were made) and its name (any int; no two "
            + "alike); the other words are 0.");
        on("one snapshot: six words are 0", 10, x -> {
            x.snapshot(-1).is(0);
            x.cluster(0, 4, 5, -1, 0, 0, 0, 0, 0, 0);
        }).broken("int addSnapshot(", "2 * number + 1, name", "2 * number + 3, name");
        on("the names furthest out, in the order of making", 10, x -> {
            x.snapshot(MIN).is(0);
            x.snapshot(MAX).is(0);
            x.snapshot(0).is(0);
            x.snapshot(-1).is(0);
            x.cluster(0, 4, 5, MIN, 6, MAX, 7, 0, 9, -1);
        }).broken("int addSnapshot(", "if (number == MOST_SNAPSHOTS)",
            "if (name < -1 || number == MOST_SNAPSHOTS)");
        on("the name 0 is not the 0 of the other words", 10, x -> {
            x.snapshot(5).is(0);
            x.snapshot(0).is(0);
            x.cluster(0, 4, 5, 5, 6, 0, 0, 0, 0, 0);
        }).broken("int snapshotNamed(", "i < snapshots", "i < MOST_SNAPSHOTS");
        on("no two alike, not the first and the fourth", 10, x -> {
            x.snapshot(3).is(0);
            x.snapshot(1).is(0);
            x.snapshot(2).is(0);
            x.snapshot(3).is(TAKEN);
            x.cluster(0, 4, 5, 3, 6, 1, 7, 2, 0, 0);
        }).broken("int addSnapshot(", "snapshotNamed(name) >= 0", "snapshotNamed(name) > 0");
    }

    private void table() {
        says("A TABLE (the active one, or a snapshot's) has 8 words: word i is 0, or 4 * c + f, "
            + "where c is the cluster of a LEAF for the blocks 8 * i .. 8 * i + 7.");
        on("an empty table", 64, x -> x.cluster(0, 3))
            .broken("void format(", "ACTIVE_TABLE, 3);", "ACTIVE_TABLE, 3); put(3, 0, 2);");
        on("the last block of a leaf and the first of the next", 64, x -> {
            x.write(56, 1).is(2);
            x.cluster(0, 3, 17);
            x.write(64, 1).is(2);
            x.cluster(0, 3, 17, 25);
        }).broken("private void giveLeaf(", "activeTable(), block / EIGHT, leadTo",
            "activeTable(), (block + 1) / EIGHT, leadTo");
        on("the last block is in the last word, in a snapshot's table too", 64, x -> {
            x.write(504, 1).is(2);
            x.cluster(0, 3, 0, 0, 0, 0, 0, 0, 0, 17);
            x.snapshot(1).is(0);
            x.cluster(0, 7, 0, 0, 0, 0, 0, 0, 0, 16);
            x.cluster(0, 3, 0, 0, 0, 0, 0, 0, 0, 16);
        }).broken("private static int leadTo(", "4 * cluster", "8 * cluster")
            .broken("void copyCluster(", "i < EIGHT", "i < LAST_OF_EIGHT");
    }

    private void leaf() {
        says("Word j of a leaf is, for block 8 * i + j: 0 (the block is ABSENT), 2 (it is ZERO), "
            + "or 4 * c + f, where c is the cluster that holds its 8 words.");
        on("its first and its last word, and all three kinds", 64, x -> {
            x.write(448, 1).is(2);
            x.write(504, 2).is(1);
            x.cluster(0, 4, 21, 0, 0, 0, 0, 0, 0, 25);
            x.discard(56).is(0);
            x.cluster(0, 4, 2, 0, 0, 0, 0, 0, 0, 25);
        }).broken("", "ZERO = 2", "ZERO = 3")
            .broken("private void putActiveWord(", "block % EIGHT", "block & 6");
    }

    private void wordsWithoutBlock() {
        says("A word for a block that the size doesn't have, and a table's word for a leaf "
            + "without any block that it has, is 0.");
        on("the block behind the last one, in a leaf that is there", 9, x -> {
            x.overlay().is(2);
            x.write(64, 1).is(2);
            x.discard(9).is(BAD);
            x.write(72, 1).is(BAD);
            x.cluster(0, 4, 21);
        }).broken("boolean hasBlock(", "block < blocks()", "block <= blocks()")
            .broken("boolean hasAddress(", "address < EIGHT * blocks()",
                "address <= EIGHT * blocks()");
        on("the leaf behind the last one", 8, x -> {
            x.overlay().is(2);
            x.discard(8).is(BAD);
            x.write(64, 1).is(BAD);
            x.cluster(0, 3);
        }).broken("boolean hasBlock(", "block < blocks()", "block <= blocks()")
            .broken("boolean hasAddress(", "address < EIGHT * blocks()",
                "address <= EIGHT * blocks()");
        on("a commit leaves them 0", 9, x -> {
            x.write(64, 1).is(2);
            x.overlay().is(2);
            x.overlay().is(3);
            x.write(65, 2).is(2);
            x.commit().is(1);
            x.cluster(0, 3, 0, 17);
            x.cluster(0, 4, 21);
        }).broken("int takeIn(", "} else if (word == ZERO && dropChanges(block)) {",
            "} else if (block == 9 || word == ZERO && dropChanges(block)) {");
    }

    private void flags() {
        says("In every table and leaf f is 1 when the count of cluster c is 1, else 0.");
        on("the counts become 2", 10, x -> {
            x.write(0, 1).is(2);
            x.cluster(0, 3, 17);
            x.cluster(0, 4, 21);
            x.snapshot(5).is(0);
            x.cluster(0, 3, 16);
            x.cluster(0, 4, 20);
            x.cluster(0, 7, 16);
        }).broken("int addSnapshot(", "tellFlags();", "");
        on("in the last place of the last leaf", 64, x -> {
            x.write(511, 1).is(2);
            x.cluster(0, 3, 0, 0, 0, 0, 0, 0, 0, 17);
            x.cluster(0, 4, 0, 0, 0, 0, 0, 0, 0, 21);
            x.snapshot(5).is(0);
            x.cluster(0, 7, 0, 0, 0, 0, 0, 0, 0, 16);
            x.cluster(0, 4, 0, 0, 0, 0, 0, 0, 0, 20);
            x.delete(5).is(0);
            x.cluster(0, 4, 0, 0, 0, 0, 0, 0, 0, 21);
        }).broken("private void tellFlagsBelow(", "i < EIGHT", "i < LAST_OF_EIGHT")
            .broken("private void tellFlagsIn(", "i < EIGHT", "i < LAST_OF_EIGHT");
    }

    private void flagsThatChange() {
        on("they become 1 by a write", 10, x -> {
            x.write(0, 1).is(2);
            x.snapshot(5).is(0);
            x.write(0, 2).is(2);
            x.cluster(0, 3, 37);
            x.cluster(0, 9, 41);
            x.cluster(0, 7, 17);
            x.cluster(0, 4, 21);
        }).broken("int putWord(", "tellFlags();", "")
            .broken("private void tellFlags(", "tellFlagsBelow(snapshotTable(i));", "");
        on("one becomes 1 by a discard", 10, x -> {
            x.write(0, 1).is(2);
            x.write(8, 2).is(1);
            x.snapshot(5).is(0);
            x.discard(1).is(1);
            x.cluster(0, 4, 20, 25);
            x.cluster(0, 10, 20, 2);
            x.discard(0).is(0);
            x.cluster(0, 4, 21, 25);
        }).broken("int dropBlock(", "tellFlags();", "");
        on("they become 1 by a delete", 10, x -> {
            x.write(0, 1).is(2);
            x.snapshot(5).is(0);
            x.snapshot(6).is(0);
            x.delete(5).is(0);
            x.cluster(0, 3, 16);
            x.cluster(0, 4, 20);
            x.delete(6).is(0);
            x.cluster(0, 3, 17);
            x.cluster(0, 4, 21);
        }).broken("void removeSnapshot(", "tellFlags();", "");
        on("they become 2, and others 1, by a revert", 10, x -> {
            x.write(0, 1).is(2);
            x.snapshot(5).is(0);
            x.write(0, 2).is(2);
            x.snapshot(6).is(0);
            x.revert(5).is(0);
            x.cluster(0, 3, 16);
            x.cluster(0, 4, 20);
            x.cluster(0, 7, 16);
            x.cluster(0, 9, 41);
            x.cluster(0, 11, 37);
        }).broken("void returnTo(", "tellFlags();", "");
        on("they become 1 by a commit", 10, x -> {
            x.write(0, 1).is(2);
            x.snapshot(5).is(0);
            x.overlay().is(2);
            x.write(0, 2).is(2);
            x.commit().is(1);
            x.cluster(0, 7, 17);
            x.cluster(0, 4, 21);
        }).broken("int takeIn(", "tellFlags();", "");
        on("3 is not 1", 10, x -> {
            x.write(0, 1).is(2);
            x.snapshot(5).is(0);
            x.snapshot(6).is(0);
            x.cluster(0, 3, 16);
            x.cluster(0, 4, 20);
        }).broken("private void tellFlagsIn(", "count(clusterOf(word)) == 1",
            "count(clusterOf(word)) % 2 == 1");
    }

    private void counts() {
        says("The COUNT of a cluster is 1 for the header, the count table, a count cluster, the "
            + "snapshot list and each table; for a leaf the number of tables that lead to it; for "
            + "a cluster with a block's words the number of tables that lead to it by a leaf; 0 "
            + "for all others, and their words are all 0.");
        on("the most tables, five, lead to one leaf and one block", 10, x -> {
            x.write(0, 1).is(2);
            for (int name = 0; name < 4; name++) {
                x.snapshot(name).is(0);
            }
            x.cluster(0, 2, 1, 1, 1, 1, 5, 5, 1, 1);
            x.cluster(0, 8, 1, 1, 1, 1);
        }).broken("private void countLeaf(", "file.addToCount(leaf, change);", "");
        on("by the last word of a table and of a leaf", 64, x -> {
            x.write(511, 1).is(2);
            x.snapshot(5).is(0);
            x.cluster(0, 2, 1, 1, 1, 1, 2, 2, 1, 1);
            x.delete(5).is(0);
            x.cluster(0, 2, 1, 1, 1, 1, 1, 1, 0, 0);
        }).broken("private void countTable(", "int i = 0", "int i = -1")
            .broken("private void countTable(", "i < EIGHT", "i < LAST_OF_EIGHT")
            .broken("private void countLeaf(", "int i = 0", "int i = -1")
            .broken("private void countLeaf(", "i < EIGHT", "i < LAST_OF_EIGHT");
        on("by the first word of a table and of a leaf", 64, x -> {
            x.write(0, 1).is(2);
            x.snapshot(5).is(0);
            x.cluster(0, 2, 1, 1, 1, 1, 2, 2, 1, 1);
            x.revert(5).is(0);
            x.cluster(0, 2, 1, 1, 1, 1, 2, 2, 1, 1);
        }).broken("private void countTable(", "i < EIGHT", "i <= EIGHT")
            .broken("private void countTable(", "int i = 0", "int i = 1")
            .broken("private void countLeaf(", "i < EIGHT", "i <= EIGHT")
            .broken("private void countLeaf(", "int i = 0", "int i = 1");
        on("two tables lead to one block by two leaves", 16, x -> {
            x.write(0, 1).is(2);
            x.write(8, 2).is(1);
            x.snapshot(9).is(0);
            x.write(1, 3).is(2);
            x.cluster(0, 2, 1, 1, 1, 1, 1, 1, 2, 1);
            x.cluster(0, 8, 1, 1, 1, 1);
        }).broken("private void countLeaf(", "file.addToCount(clusterOf(word), change);",
            "file.addToCount(clusterOf(word), change - change);");
        on("a leaf without any cluster has a count too", 16, x -> {
            x.write(0, 1).is(2);
            x.discard(0).is(0);
            x.cluster(0, 2, 1, 1, 1, 1, 1, 0);
            x.snapshot(9).is(0);
            x.cluster(0, 2, 1, 1, 1, 1, 2, 1, 1);
        }).broken("int addSnapshot(", "countTable(table, 1);", "");
    }

    private void freeWords() {
        on("the words of a block that is discarded", 10, x -> {
            x.write(0, 1).is(2);
            x.write(7, 2).is(0);
            x.discard(0).is(0);
            x.cluster(0, 5);
        }).broken("void addToCount(", "i < EIGHT", "i < LAST_OF_EIGHT")
            .broken("void addToCount(", "int i = 0", "int i = 1");
        on("the words of a table and of the list, by a delete", 10, x -> {
            x.write(0, 1).is(2);
            x.snapshot(5).is(0);
            x.delete(5).is(0);
            x.cluster(0, 2, 1, 1, 1, 1, 1, 1, 0, 0);
            x.cluster(0, 6);
            x.cluster(0, 7);
        }).broken("void removeSnapshot(", "file.addToCount(table, -1);", "")
            .broken("void removeSnapshot(", "file.addToCount(snapshotList(), -1);", "");
        on("the words of a leaf and its blocks, by a revert", 10, x -> {
            x.write(0, 1).is(2);
            x.snapshot(5).is(0);
            x.write(0, 2).is(2);
            x.revert(5).is(0);
            x.cluster(0, 8, 1, 0, 0, 0);
            x.cluster(0, 9);
            x.cluster(0, 10);
        }).broken("void returnTo(", "countTable(activeTable(), -1);", "")
            .broken("void addToCount(", "if (count == 0) {", "if (count < 0) {");
    }
}
