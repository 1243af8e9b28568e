/** The sentences of the promises 1 to 4: a new object, write, read and discard. */
final class WriteSentences extends Sentences {
    WriteSentences() {
        under("Promise 1");
        newObject();
        newStage();
        under("Promise 2");
        writeWord();
        leaf();
        cluster();
        order();
        writeBad();
        writeFull();
        writeAnswers();
        under("Promise 3");
        read();
        under("Promise 4");
        nothingToDiscard();
        zeroAlready();
        discardOverImage();
        ownLeaf();
        discardRefused();
        discardAnswers();
    }

    private void newObject() {
        says("One image, a new file of the size (1 when it is below 1, 64 when it is above 64).");
        size(0, 1).broken("public LayeredImage(", "Math.max(1,", "Math.max(0,");
        size(-1, 1).broken("public LayeredImage(", "Math.max(1,", "Math.max(-1,");
        size(MIN, 1).broken("public LayeredImage(", "Math.max(1,", "Math.abs(");
        size(1, 1).broken("public LayeredImage(", "Math.max(1,", "Math.max(2,");
        size(2, 2).broken("public LayeredImage(", "Math.max(1,", "Math.max(3,");
        size(63, 63).broken("public LayeredImage(", "Math.min(MOST_BLOCKS,", "Math.min(62,");
        size(64, 64).broken("public LayeredImage(", "Math.min(MOST_BLOCKS,", "Math.min(63,");
        size(65, 64).broken("public LayeredImage(", "Math.min(MOST_BLOCKS,", "Math.min(65,");
        size(MAX, 64).broken("public LayeredImage(", "Math.min(MOST_BLOCKS, size)", "size");
        on("one image, and no other", 5, x -> {
            x.images().is(1);
            x.word(0, 0).is(7001);
            x.word(1, 0).is(0);
            x.commit().is(BAD);
        }).broken("public LayeredImage(", "height = 1;", "height = 2;");
    }

    private Sentence size(int given, int due) {
        return on("size " + given, given, x -> {
            x.size().is(due);
            x.word(0, 2).is(due);
            x.write(8 * due - 1, 1).is(2);
            x.write(8 * due, 1).is(BAD);
        });
    }

    private void newStage() {
        says("All 512 words on the stage are 0.");
        on("the untouched stage is no file", 5, x -> {
            x.load().is(1);
            x.size().is(5);
        }).broken("staged = new ClusterFile();", ";", ";\n        staged.format(1);");
        on("where nothing was put, up to the last word", 5, x -> {
            x.stage(0, 7001, 1, 9, 3).is(1);
            x.stage(1, 1, 0, 0, 0).is(1);
            x.stage(2, 2, 0, 0, 0).is(1);
            x.stage(4, 1, 1, 1, 1).is(1);
            x.load().is(0);
            x.size().is(9);
        }).broken("staged = new ClusterFile();", ";", ";\n        staged.put(63, 7, 1);")
            .broken("staged = new ClusterFile();", ";", ";\n        staged.put(3, 0, 1);");
    }

    private void writeWord() {
        says("Writes a word at an address.");
        on("the words furthest out, at the first and the last address", 10, x -> {
            x.write(0, MIN).is(2);
            x.write(79, MAX).is(2);
            x.write(1, -1).is(0);
            x.read(0).is(MIN);
            x.read(79).is(MAX);
            x.read(1).is(-1);
        }).broken("int putWord(", "address % EIGHT, value)", "address % EIGHT, Math.abs(value))");
        on("0 where there was no word, and over a word", 10, x -> {
            x.write(0, 0).is(2);
            x.used().is(6);
            x.write(1, 3).is(0);
            x.write(1, 0).is(0);
            x.read(1).is(0);
            x.used().is(6);
        }).broken("int putWord(", "int block = address / EIGHT;",
            "int block = address / EIGHT;\n            if (value == 0) { return 0; }");
    }

    private void leaf() {
        says("Its block is to have a cluster of its own: LEAF: if the active table leads to no "
            + "leaf for it, one is taken (with 8 absent blocks); if the leaf has a count above 1, "
            + "one is taken that begins as a copy of it, and is the active table's leaf instead.");
        on("no leaf: one with eight absent blocks", 64, x -> {
            x.write(504, 1).is(2);
            x.cluster(0, 3, 0, 0, 0, 0, 0, 0, 0, 17);
            x.cluster(0, 4, 0, 0, 0, 0, 0, 0, 0, 21);
        }).broken("private void giveLeaf(", "int leaf = file.take();",
            "int leaf = file.take();\n            file.put(leaf, 0, ZERO);");
        on("a leaf with the count 1 stays", 64, x -> {
            x.write(0, 1).is(2);
            x.write(56, 1).is(1);
            x.cluster(0, 3, 17);
            x.cluster(0, 4, 21, 0, 0, 0, 0, 0, 0, 25);
        }).broken("private void giveLeaf(", "if (isOwn(old)) {", "if (isOwn(old) && block != 7) {");
        on("a leaf with the count 2: a copy, of its last word too", 8, x -> {
            x.write(0, 1).is(2);
            x.write(63, 2).is(1);
            x.discard(0).is(0);
            x.snapshot(1).is(0);
            x.write(8, 3).is(2);
            x.cluster(0, 3, 37);
            x.cluster(0, 4, 2, 0, 0, 0, 0, 0, 0, 24);
            x.cluster(0, 9, 2, 41, 0, 0, 0, 0, 0, 24);
            x.cluster(0, 7, 17);
        }).broken("void copyCluster(", "i < EIGHT", "i < LAST_OF_EIGHT")
            .broken("private boolean isOwn(", "count(clusterOf(word)) == 1",
                "count(clusterOf(word)) <= 2");
        on("a leaf that has come back to the count 1 stays", 8, x -> {
            x.write(0, 1).is(2);
            x.snapshot(1).is(0);
            x.delete(1).is(0);
            x.write(8, 2).is(1);
            x.cluster(0, 3, 17);
        }).broken("private void countLeaf(", "file.addToCount(leaf, change);",
            "file.addToCount(leaf, change < 0 ? 0 : change);");
    }

    private void cluster() {
        says("CLUSTER: if the block is absent or zero, one is taken that begins with the 8 words "
            + "as the active table shows them; if the block's cluster has a count above 1, "
            + "likewise, and is the leaf's cluster instead.");
        on("absent, nothing below: seven words are 0", 4, x -> {
            x.write(31, 5).is(2);
            x.cluster(0, 5, 0, 0, 0, 0, 0, 0, 0, 5);
        }).broken("private int giveCluster(", "shown(activeTable(), EIGHT * block + i)", "i");
        on("absent over an image: its first and its last word", 4, x -> {
            x.write(24, 1).is(2);
            x.write(31, 2).is(0);
            x.overlay().is(2);
            x.write(28, 5).is(2);
            x.cluster(0, 5, 1, 0, 0, 0, 5, 0, 0, 2);
        }).broken("private int giveCluster(", "int i = 0", "int i = 1")
            .broken("private int giveCluster(", "i < EIGHT", "i < LAST_OF_EIGHT");
        on("zero over an image: seven words are 0", 4, x -> {
            x.write(24, 1).is(2);
            x.overlay().is(2);
            x.discard(3).is(1);
            x.write(25, 5).is(1);
            x.cluster(0, 5, 0, 5);
            x.cluster(0, 4, 0, 0, 0, 21);
        }).broken("private int giveCluster(", "int cluster = file.take();",
            "int cluster = file.take();\n            if (old == ZERO) { putActiveWord(block, 0); }");
        on("a count of 2: a copy, and the leaf that was its own stays", 4, x -> {
            x.write(0, 1).is(2);
            x.write(8, 2).is(1);
            x.write(15, 3).is(0);
            x.snapshot(1).is(0);
            x.write(0, 4).is(2);
            x.write(9, 5).is(1);
            x.cluster(0, 10, 45, 49);
            x.cluster(0, 12, 2, 5, 0, 0, 0, 0, 0, 3);
            x.cluster(0, 6, 2, 0, 0, 0, 0, 0, 0, 3);
            x.cluster(0, 4, 21, 25);
        }).broken("private int clustersFor(", "isOwn(activeWord(block)) ? 0 : 1",
            "isLead(activeWord(block)) ? 0 : 1")
            .broken("private int giveCluster(", "if (isOwn(old)) {", "if (isLead(old)) {");
        on("a count of 1 stays", 4, x -> {
            x.write(0, 1).is(2);
            x.write(1, 2).is(0);
            x.cluster(0, 4, 21);
            x.cluster(0, 5, 1, 2);
        }).broken("private int giveCluster(", "if (isOwn(old)) {", "if (isOwn(old) && block < 0) {");
    }

    private void order() {
        says("The leaf is taken before the cluster.");
        on("the first of a file", 4, x -> {
            x.write(0, 7).is(2);
            x.cluster(0, 3, 17);
            x.cluster(0, 4, 21);
            x.cluster(0, 5, 7);
        }).broken("private void giveLeaf(", "int leaf = file.take();",
            "int next = file.take();\n            int leaf = file.take();\n"
            + "            file.addToCount(next, -1);");
        on("of two holes the lower is for the leaf", 20, x -> {
            x.write(0, 1).is(2);
            x.write(8, 1).is(1);
            x.write(16, 1).is(1);
            x.discard(2).is(0);
            x.discard(0).is(0);
            x.write(159, 7).is(2);
            x.cluster(0, 3, 17, 0, 21);
            x.cluster(0, 5, 0, 0, 0, 29);
            x.cluster(0, 7, 0, 0, 0, 0, 0, 0, 0, 7);
        }).broken("private void giveLeaf(", "int leaf = file.take();",
            "int next = file.take();\n            int leaf = file.take();\n"
            + "            file.addToCount(next, -1);");
    }

    private void writeBad() {
        says("Refused: BAD; FULL when there is no room for what is taken.");
        on("BAD: the addresses beside the first and the last", 10, x -> {
            x.write(-1, 5).is(BAD);
            x.write(80, 5).is(BAD);
            x.write(0, 5).is(2);
            x.write(79, 5).is(2);
        }).broken("boolean hasAddress(", "address >= 0", "address >= -1")
            .broken("boolean hasAddress(", "address < EIGHT", "address <= EIGHT");
        on("BAD: the numbers furthest out, and those that wrap around", 10, x -> {
            x.write(MIN, 5).is(BAD);
            x.write(MAX, 5).is(BAD);
            x.write(MIN + 1, 5).is(BAD);
            x.write(1 << 29, 5).is(BAD);
            x.write(1 << 30, 5).is(BAD);
            x.write(-8, 5).is(BAD);
            x.used().is(4);
        }).broken("boolean hasAddress(", "address >= 0 && address < EIGHT * blocks()",
            "address * EIGHT >= 0 && address * EIGHT < EIGHT * EIGHT * blocks()")
            .broken("boolean hasAddress(", "address >= 0 &&", "")
            .broken("boolean hasAddress(", "address >= 0", "address - 1 >= -1");
        on("BAD: by the size of now", 1, x -> {
            x.write(8, 5).is(BAD);
            x.grow(2).is(0);
            x.write(8, 5).is(2);
            x.write(16, 5).is(BAD);
        }).broken("public int grow(", "top().file.put(HEADER, SIZE, size);",
            "top().file.put(HEADER, SIZE, size + 1);");
        on("BAD in a full file, too", 64, x -> {
            x.fill(0);
            x.write(512, 1).is(BAD);
            x.write(-1, 1).is(BAD);
        }).broken("public int write(", "return ",
            "if (top().file.room() == 0) { return FULL; }\n        return ");
    }

    private void writeFull() {
        on("FULL: a cluster, and no room", 64, x -> {
            x.fill(0);
            x.write(56, 1).is(FULL);
            x.read(56).is(0);
        }).broken("int putWord(", "file.room() < takings", "file.room() < takings - 1");
        on("FULL: a leaf and a cluster, and room for one", 64, x -> {
            x.fill(3);
            x.snapshot(1).is(0);
            x.write(0, 2).is(FULL);
            x.read(0).is(1);
            x.used().is(63);
        }).broken("int putWord(", "file.room() < takings", "file.room() < takings - 1");
        on("FULL: a cluster instead of a shared one, and no room", 64, x -> {
            x.fill(4);
            x.snapshot(1).is(0);
            x.write(0, 2).is(2);
            x.write(8, 3).is(FULL);
            x.read(8).is(1);
        }).broken("private int clustersFor(", "isOwn(activeWord(block)) ? 0 : 1",
            "isLead(activeWord(block)) ? 0 : 1");
        on("a cluster, and room for one", 64, x -> {
            x.fill(1);
            x.write(56, 4).is(1);
            x.read(56).is(4);
        }).broken("int putWord(", "file.room() < takings", "file.room() <= takings");
        on("a leaf and a cluster, and room for two", 64, x -> {
            x.fill(4);
            x.snapshot(1).is(0);
            x.write(0, 2).is(2);
            x.read(0).is(2);
        }).broken("int putWord(", "file.room() < takings", "file.room() < takings + 1");
        on("nothing to take, and no room", 64, x -> {
            x.fill(0);
            x.write(0, 9).is(0);
            x.read(0).is(9);
        }).broken("int putWord(", "file.room() < takings", "file.room() <= takings");
    }

    private void writeAnswers() {
        says("Answers how many clusters were taken, 0 .. 2 (count clusters don't count).");
        on("2, 1 and 0", 10, x -> {
            x.write(0, 1).is(2);
            x.write(8, 1).is(1);
            x.write(8, 2).is(0);
        }).broken("int putWord(", "return takings;", "return Math.min(takings, 1);");
        on("2 and a count cluster before both", 10, x -> {
            x.write(0, 1).is(2);
            x.snapshot(1).is(0);
            x.used().is(8);
            x.write(0, 2).is(2);
            x.used().is(11);
        }).broken("int putWord(", "giveLeaf(block);",
            "takings += file.leastFree() % EIGHT == 0 ? 1 : 0;\n            giveLeaf(block);");
        on("2 and a count cluster between them", 64, x -> {
            x.write(0, 1).is(2);
            x.write(8, 1).is(1);
            x.used().is(7);
            x.write(64, 1).is(2);
            x.used().is(10);
        }).broken("int putWord(", "giveLeaf(block);",
            "giveLeaf(block);\n            takings += file.leastFree() % EIGHT == 0 ? 1 : 0;");
        on("1 and a count cluster", 10, x -> {
            x.write(0, 1).is(2);
            x.write(8, 1).is(1);
            x.write(16, 1).is(1);
            x.used().is(8);
            x.write(24, 1).is(1);
            x.used().is(10);
        }).broken("int putWord(", "giveLeaf(block);",
            "takings += file.leastFree() % EIGHT == 0 ? 1 : 0;\n            giveLeaf(block);");
    }

    private void read() {
        says("The word at an address, as the active table shows it; 0 when there is no such "
            + "address.");
        on("0 beside the first and the last address", 1, x -> {
            for (int address = 0; address < 8; address++) {
                x.write(address, 5 + address);
            }
            x.read(-1).is(0);
            x.read(0).is(5);
            x.read(7).is(12);
            x.read(8).is(0);
        }).broken("public int read(", "top.hasAddress(address) ? ",
            "address <= 8 * top.blocks() - 1 ? ")
            .broken("public int read(", ": 0;", ": BAD;");
        on("0 behind the last address, however far", 9, x -> {
            x.write(64, 5).is(2);
            x.read(72).is(0);
            x.read(80).is(0);
            x.read(512).is(0);
            x.read(576).is(0);
        }).broken("public int read(", "top.hasAddress(address) ? ",
            "address >= 0 ? ").broken("public int read(", ": 0;", ": 1;");
        on("0 at the numbers furthest out, and at those that wrap around", 64, x -> {
            x.write(0, 5).is(2);
            x.write(511, 6).is(2);
            x.read(MIN).is(0);
            x.read(MAX).is(0);
            x.read(1 << 29).is(0);
            x.read(-512).is(0);
            x.read(-8).is(0);
            x.read(511).is(6);
        }).broken("public int read(", "top.hasAddress(address) ? ", "true ? ");
        on("any word", 1, x -> {
            x.write(0, MIN).is(2);
            x.write(1, MAX).is(0);
            x.write(2, -1).is(0);
            x.read(0).is(MIN);
            x.read(1).is(MAX);
            x.read(2).is(-1);
        }).broken("public int read(", "top.shown(top.activeTable(), address)",
            "Math.max(-1, top.shown(top.activeTable(), address))");
        on("the active table, not a snapshot's", 1, x -> {
            x.write(0, 1).is(2);
            x.snapshot(1).is(0);
            x.write(0, 2).is(2);
            x.read(0).is(2);
        }).broken("public int read(", "top.activeTable()",
            "(top.snapshotCount() > 0 ? top.snapshotTable(0) : top.activeTable())");
    }

    private void nothingToDiscard() {
        says("Makes a block ZERO; but when it is absent and there is no image below, or it is "
            + "ZERO already, nothing changes, and the answer is 0.");
        on("it is ZERO after that", 10, x -> {
            x.write(64, 1).is(2);
            x.write(72, 2).is(1);
            x.discard(9).is(0);
            x.cluster(0, 4, 21, 2);
            x.discard(8).is(0);
            x.cluster(0, 4, 2, 2);
            x.read(64).is(0);
        }).broken("private void makeZero(", "putActiveWord(block, ZERO);",
            "putActiveWord(block, ABSENT);");
        nothingChanges("absent, nothing below, no leaf", 10, x -> x.images().is(1),
            x -> x.discard(9).is(0))
            .broken("private boolean dropChanges(", "word == ABSENT && below != null",
                "word == ABSENT");
        nothingChanges("absent, nothing below, a leaf of its own", 10, x -> x.write(0, 1).is(2),
            x -> x.discard(1).is(0))
            .broken("private boolean dropChanges(", "word == ABSENT && below != null",
                "word == ABSENT");
        nothingChanges("absent, nothing below, a shared leaf", 10, x -> {
            x.write(0, 1).is(2);
            x.snapshot(1).is(0);
        }, x -> x.discard(1).is(0))
            .broken("private boolean dropChanges(", "word == ABSENT && below != null",
                "word == ABSENT");
        nothingChanges("absent, nothing below, a shared leaf and no room", 64, x -> {
            x.fill(2);
            x.snapshot(1).is(0);
        }, x -> x.discard(7).is(0))
            .broken("int dropBlock(", "if (!dropChanges(block)) {",
                "if (!dropChanges(block) && file.room() > 0) {");
    }

    private void zeroAlready() {
        nothingChanges("ZERO already, a leaf of its own", 10, x -> {
            x.write(0, 1).is(2);
            x.discard(0).is(0);
        }, x -> x.discard(0).is(0))
            .broken("int dropBlock(", "if (!dropChanges(block)) {\n                return 0;",
                "if (!dropChanges(block)) {\n                return BAD;");
        nothingChanges("ZERO already, a shared leaf", 10, x -> {
            x.write(0, 1).is(2);
            x.discard(0).is(0);
            x.snapshot(1).is(0);
        }, x -> x.discard(0).is(0))
            .broken("private boolean dropChanges(", "word == ABSENT && below",
                "word == ZERO || word == ABSENT && below");
        nothingChanges("ZERO already, a shared leaf and no room", 64, x -> {
            x.fill(1);
            x.discard(0).is(0);
            x.snapshot(1).is(0);
        }, x -> {
            x.used().is(64);
            x.discard(0).is(0);
        }).broken("private boolean dropChanges(", "word == ABSENT && below",
            "word == ZERO || word == ABSENT && below");
        nothingChanges("ZERO already, over an image", 10, x -> {
            x.write(0, 1).is(2);
            x.overlay().is(2);
            x.discard(0).is(1);
            x.snapshot(1).is(0);
        }, x -> x.discard(0).is(0))
            .broken("private boolean dropChanges(", "word == ABSENT && below",
                "word != ABSENT + 1 && below");
    }

    private void discardOverImage() {
        on("absent over an image that has a cluster", 10, x -> {
            x.write(0, 1).is(2);
            x.overlay().is(2);
            x.discard(0).is(1);
            x.cluster(0, 3, 17);
            x.cluster(0, 4, 2);
            x.read(0).is(0);
        }).broken("private boolean dropChanges(", "word == ABSENT && below != null", "false");
        on("absent over an image where it is absent", 10, x -> {
            x.overlay().is(2);
            x.discard(9).is(1);
            x.cluster(0, 3, 0, 17);
            x.cluster(0, 4, 0, 2);
        }).broken("private boolean dropChanges(", "word == ABSENT && below != null",
            "word == ABSENT && below != null && below.activeWord(block) != ABSENT");
        on("absent over an image that has not so many blocks", 1, x -> {
            x.overlay().is(2);
            x.grow(9).is(0);
            x.discard(8).is(1);
            x.cluster(0, 3, 0, 17);
            x.cluster(0, 4, 2);
        }).broken("private boolean dropChanges(", "word == ABSENT && below != null",
            "word == ABSENT && below != null && below.hasBlock(block)");
    }

    private void ownLeaf() {
        says("The active table is to have a leaf of its own for it, as for write; the block's "
            + "cluster, if it has one, is led to no more.");
        on("a leaf of its own stays, the cluster is free", 10, x -> {
            x.write(0, 1).is(2);
            x.write(8, 2).is(1);
            x.discard(1).is(0);
            x.cluster(0, 3, 17);
            x.cluster(0, 4, 21, 2);
            x.cluster(0, 6);
            x.used().is(6);
        }).broken("private void release(", "file.addToCount(clusterOf(word), -1);", "");
        on("a shared leaf: a copy, the snapshot keeps the cluster", 10, x -> {
            x.write(0, 1).is(2);
            x.write(8, 2).is(1);
            x.snapshot(5).is(0);
            x.discard(1).is(1);
            x.cluster(0, 3, 41);
            x.cluster(0, 9, 17);
            x.cluster(0, 4, 20, 25);
            x.cluster(0, 10, 20, 2);
            x.cluster(0, 2, 1, 1, 1, 1, 1, 2, 1, 1);
            x.readOld(5, 8).is(2);
        }).broken("int dropBlock(", "giveLeaf(block);", "")
            .broken("private void makeZero(", "release(old);", "");
        on("no leaf, no cluster", 10, x -> {
            x.overlay().is(2);
            x.discard(0).is(1);
            x.cluster(0, 2, 1, 1, 1, 1, 1);
            x.cluster(0, 4, 2);
        }).broken("private void release(", "if (isLead(word)) {", "if (word == ABSENT) {");
    }

    private void discardRefused() {
        says("Refused: BAD; FULL.");
        on("BAD: the blocks beside the first and the last", 10, x -> {
            x.write(0, 1).is(2);
            x.write(72, 1).is(2);
            x.discard(-1).is(BAD);
            x.discard(10).is(BAD);
            x.discard(0).is(0);
            x.discard(9).is(0);
        }).broken("boolean hasBlock(", "block >= 0", "block >= -1")
            .broken("boolean hasBlock(", "block < blocks()", "block <= blocks()");
        on("BAD: the numbers furthest out, and those that wrap around", 10, x -> {
            x.write(0, 1).is(2);
            x.discard(MIN).is(BAD);
            x.discard(MAX).is(BAD);
            x.discard(1 << 29).is(BAD);
            x.discard(1 << 30).is(BAD);
            x.discard(-8).is(BAD);
            x.discard(64).is(BAD);
            x.read(0).is(1);
        }).broken("public int discard(", "top().hasBlock(block)",
            "top().hasAddress(EIGHT * block)");
        on("BAD in a full file, too", 64, x -> {
            x.fill(2);
            x.snapshot(1).is(0);
            x.discard(64).is(BAD);
            x.discard(-1).is(BAD);
        }).broken("public int discard(", "return ",
            "if (top().file.room() == 0) { return FULL; }\n        return ");
        on("FULL: a copy of a shared leaf, and no room", 64, x -> {
            x.fill(2);
            x.snapshot(1).is(0);
            x.discard(0).is(FULL);
            x.read(0).is(1);
        }).broken("int dropBlock(", "file.room() < takings", "file.room() < 0");
        on("a copy of a shared leaf, and room for one", 64, x -> {
            x.fill(3);
            x.snapshot(1).is(0);
            x.discard(0).is(1);
            x.read(0).is(0);
            x.used().is(64);
        }).broken("int dropBlock(", "file.room() < takings", "file.room() <= takings");
        on("FULL: a leaf over an image, and no room", 64, x -> {
            x.overlay().is(2);
            for (int n = 0; n < 46; n++) {
                x.write(64 * (n % 7) + 8 * (n / 7), 1).is(n < 7 ? 2 : 1);
            }
            x.used().is(64);
            x.discard(63).is(FULL);
            x.discard(0).is(0);
            x.discard(63).is(1);
        }).broken("int dropBlock(", "file.room() < takings", "file.room() < takings - 1");
        on("no leaf to take, and no room", 64, x -> {
            x.fill(0);
            x.discard(0).is(0);
            x.read(0).is(0);
            x.used().is(63);
        }).broken("int dropBlock(", "file.room() < takings", "file.room() <= takings");
    }

    private void discardAnswers() {
        says("Answers how many clusters were taken, 0 or 1.");
        on("0 with a leaf of its own, 1 with a shared one", 10, x -> {
            x.write(0, 1).is(2);
            x.write(8, 1).is(1);
            x.discard(0).is(0);
            x.snapshot(1).is(0);
            x.discard(1).is(1);
        }).broken("int dropBlock(", "return takings;", "return 0;");
        on("1 and a count cluster", 10, x -> {
            x.write(0, 1).is(2);
            x.snapshot(1).is(0);
            x.used().is(8);
            x.discard(0).is(1);
            x.used().is(10);
        }).broken("int dropBlock(", "giveLeaf(block);",
            "takings += file.leastFree() % EIGHT == 0 ? 1 : 0;\n            giveLeaf(block);");
    }
}
