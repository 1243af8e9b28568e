/** The sentences of the promises 9 to 16: overlay, commit, grow, what is told, and stage. */
final class ChainSentences extends Sentences {
    ChainSentences() {
        under("Promise 9");
        overlay();
        overlayRefused();
        under("Promise 10");
        commitSize();
        commitBlocks();
        commitZero();
        commitZeroWithSnapshot();
        commitBad();
        commitFull();
        commitFullCounts();
        commitFreed();
        commitAnswers();
        under("Promise 11");
        grow();
        growRefused();
        under("Promise 12");
        size();
        under("Promise 13");
        images();
        under("Promise 14");
        used();
        under("Promise 15");
        word();
        under("Promise 16");
        stage();
        stageAnswers();
    }

    private void overlay() {
        says("The top image (with its snapshots) goes below a new one, a new file of the same "
            + "size.");
        on("the new file, of the least size", 1, x -> {
            x.write(0, 1).is(2);
            x.snapshot(3).is(0);
            x.overlay().is(2);
            x.cluster(0, 0, 7001, 1, 1, 3, 1, 0, 0, 0);
            x.cluster(0, 1, 2);
            x.cluster(0, 2, 1, 1, 1, 1);
            x.used().is(4);
            x.size().is(1);
        }).broken("public int overlay(", "top().file.format(size);",
            "top().file.becomeLike(chain[height - 2].file);");
        on("the size that it has grown to, the greatest", 1, x -> {
            x.grow(64).is(0);
            x.overlay().is(2);
            x.size().is(64);
            x.write(511, 1).is(2);
        }).broken("public int overlay(", "top().file.format(size);", "top().file.format(1);");
        on("with its snapshots: below, and again on top after a commit", 10, x -> {
            x.write(0, 1).is(2);
            x.snapshot(3).is(0);
            x.write(0, 2).is(2);
            x.overlay().is(2);
            x.word(0, 5).is(0);
            x.word(1, 5).is(1);
            x.delete(3).is(BAD);
            x.commit().is(0);
            x.readOld(3, 0).is(1);
        }).broken("public int overlay(", "int size = top().blocks();",
            "int size = top().blocks();\n"
            + "        while (top().snapshotCount() > 0) { top().removeSnapshot(0); }");
        on("a file that an image had used which has ended", 10, x -> {
            x.overlay().is(2);
            x.write(0, 1).is(2);
            x.commit().is(1);
            x.overlay().is(2);
            x.used().is(4);
            x.cluster(0, 3);
            x.cluster(0, 5);
        }).broken("void format(", "words[i] = 0;", "words[i] = words[i];");
    }

    private void overlayRefused() {
        says("Refused: MANY when there are 3 images.");
        on("two images are not many, three are", 10, x -> {
            x.overlay().is(2);
            x.overlay().is(3);
            x.overlay().is(MANY);
            x.images().is(3);
        }).broken("public int overlay(", "height == MOST_IMAGES", "height == MOST_IMAGES - 1")
            .broken("public int overlay(", "return MANY;", "return height;");
        on("not many any more after a commit", 10, x -> {
            x.overlay().is(2);
            x.overlay().is(3);
            x.commit().is(0);
            x.overlay().is(3);
            x.overlay().is(MANY);
        }).broken("public int commit(", "height--;", "");
        says("Otherwise answers how many images there are now.");
        on("2 and 3", 10, x -> {
            x.overlay().is(2);
            x.overlay().is(3);
        }).broken("public int overlay(", "return height;", "return 2;");
    }

    private void commitSize() {
        says("Puts the top image into the one below (whose snapshots stay), which then is the top "
            + "one: it gets the top image's size; then, for every block from 0 on: if it has a "
            + "cluster in the top image, its 8 words are written there (taking as write does), if "
            + "it is ZERO, it is discarded there.");
        on("nothing but a greater size", 1, x -> {
            x.overlay().is(2);
            x.grow(64).is(0);
            x.word(1, 2).is(1);
            x.commit().is(0);
            x.size().is(64);
            x.images().is(1);
            x.used().is(4);
            x.write(511, 1).is(2);
        }).broken("int takeIn(", "file.put(HEADER, SIZE, upper.blocks());", "");
        on("the snapshots stay, four of them", 10, x -> {
            x.write(0, 1).is(2);
            for (int name = 0; name < 4; name++) {
                x.snapshot(name).is(0);
            }
            x.overlay().is(2);
            x.write(0, 2).is(2);
            x.commit().is(1);
            x.word(0, 5).is(4);
            x.read(0).is(2);
            x.readOld(0, 0).is(1);
            x.readOld(3, 0).is(1);
        }).broken("int takeIn(", "tellFlags();", "tellFlags();\n            removeSnapshot(0);");
        on("of three images the two upper ones", 10, x -> {
            x.write(0, 1).is(2);
            x.overlay().is(2);
            x.overlay().is(3);
            x.write(0, 2).is(2);
            x.commit().is(1);
            x.images().is(2);
            x.word(1, 40).is(1);
            x.word(0, 40).is(2);
        }).broken("public int commit(", "Image lower = upper.below;",
            "Image lower = height > 1 ? chain[0] : null;");
    }

    private void commitBlocks() {
        on("the first and the last block, their first and last words", 64, x -> {
            x.overlay().is(2);
            x.write(0, 1).is(2);
            x.write(7, 2).is(0);
            x.write(504, 3).is(2);
            x.write(511, 4).is(0);
            x.commit().is(2);
            x.cluster(0, 5, 1, 0, 0, 0, 0, 0, 0, 2);
            x.cluster(0, 7, 3, 0, 0, 0, 0, 0, 0, 4);
            x.cluster(0, 3, 17, 0, 0, 0, 0, 0, 0, 25);
        }).broken("int takeIn(", "block < MOST_BLOCKS", "block < MOST_BLOCKS - 1")
            .broken("int takeIn(", "int block = 0", "int block = 1");
        on("from block 0 on: the least cluster for the least block", 10, x -> {
            x.overlay().is(2);
            x.write(72, 9).is(2);
            x.write(8, 1).is(2);
            x.write(0, 5).is(1);
            x.commit().is(3);
            x.cluster(0, 4, 21, 25);
            x.cluster(0, 5, 5);
            x.cluster(0, 6, 1);
            x.cluster(0, 3, 17, 29);
            x.cluster(0, 7, 0, 37);
            x.cluster(0, 9, 9);
        }).broken("int takeIn(", "block = 0; block < MOST_BLOCKS; block++",
            "block = MOST_BLOCKS - 1; block >= 0; block--");
        on("words that are 0 in a cluster are written, too", 10, x -> {
            x.write(0, 1).is(2);
            x.write(1, 2).is(0);
            x.overlay().is(2);
            x.write(0, 0).is(2);
            x.commit().is(1);
            x.cluster(0, 5, 0, 2);
        }).broken("void copyCluster(", "put(to, i, source.at(from, i));",
            "if (source.at(from, i) != 0) { put(to, i, source.at(from, i)); }");
        on("taking as write does: what a snapshot shares is not written over", 10, x -> {
            x.write(0, 1).is(2);
            x.snapshot(1).is(0);
            x.overlay().is(2);
            x.write(1, 2).is(2);
            x.commit().is(1);
            x.cluster(0, 3, 37);
            x.cluster(0, 9, 41);
            x.cluster(0, 10, 1, 2);
            x.cluster(0, 5, 1);
            x.cluster(0, 8, 1, 1, 1);
        }).broken("private int giveCluster(", "if (isOwn(old)) {", "if (isLead(old)) {")
            .broken("int takeIn(", "giveLeaf(block);\n                    file.copyCluster(",
                "file.copyCluster(");
        on("a block that is absent in the top image stays", 10, x -> {
            x.write(0, 1).is(2);
            x.write(8, 2).is(1);
            x.overlay().is(2);
            x.write(0, 3).is(2);
            x.commit().is(1);
            x.cluster(0, 4, 21, 25);
            x.read(8).is(2);
        }).broken("int takeIn(", "word == ZERO && dropChanges(block)", "dropChanges(block)");
    }

    private void commitZero() {
        on("ZERO over a cluster: discarded there", 10, x -> {
            x.write(0, 1).is(2);
            x.overlay().is(2);
            x.discard(0).is(1);
            x.commit().is(1);
            x.cluster(0, 3, 17);
            x.cluster(0, 4, 2);
            x.cluster(0, 5);
            x.used().is(5);
        }).broken("int takeIn(", "word == ZERO && dropChanges(block)", "word == MAGIC_WORD");
        on("ZERO over absent, nothing below that: nothing changes, no leaf", 10, x -> {
            x.overlay().is(2);
            x.discard(9).is(1);
            x.commit().is(1);
            x.cluster(0, 3);
            x.used().is(4);
        }).broken("int takeIn(", "word == ZERO && dropChanges(block)", "word == ZERO");
        on("ZERO over absent, an image below that: ZERO there", 10, x -> {
            x.overlay().is(2);
            x.overlay().is(3);
            x.discard(9).is(1);
            x.commit().is(1);
            x.cluster(0, 3, 0, 17);
            x.cluster(0, 4, 0, 2);
        }).broken("int takeIn(", "word == ZERO && dropChanges(block)",
            "word == ZERO && isLead(activeWord(block))");
        on("ZERO in a block that the size below has not", 1, x -> {
            x.overlay().is(2);
            x.overlay().is(3);
            x.grow(64).is(0);
            x.discard(63).is(1);
            x.commit().is(1);
            x.size().is(64);
            x.cluster(0, 3, 0, 0, 0, 0, 0, 0, 0, 17);
            x.cluster(0, 4, 0, 0, 0, 0, 0, 0, 0, 2);
        }).broken("int takeIn(", "word == ZERO && dropChanges(block)",
            "word == ZERO && below.hasBlock(block)");
    }

    private void commitZeroWithSnapshot() {
        on("ZERO over ZERO in a shared leaf: nothing changes, no leaf", 10, x -> {
            x.write(0, 1).is(2);
            x.discard(0).is(0);
            x.snapshot(1).is(0);
            x.overlay().is(2);
            x.discard(0).is(1);
            x.commit().is(1);
            x.cluster(0, 3, 16);
            x.cluster(0, 4, 2);
            x.used().is(7);
        }).broken("int takeIn(", "word == ZERO && dropChanges(block)", "word == ZERO");
        on("ZERO over a cluster in a shared leaf: a leaf of its own", 10, x -> {
            x.write(0, 1).is(2);
            x.snapshot(1).is(0);
            x.overlay().is(2);
            x.discard(0).is(1);
            x.commit().is(1);
            x.cluster(0, 3, 37);
            x.cluster(0, 9, 2);
            x.cluster(0, 4, 21);
            x.readOld(1, 0).is(1);
        }).broken("int takeIn(", "giveLeaf(block);\n                    makeZero(block);",
            "makeZero(block);");
    }

    private void commitBad() {
        says("Refused: BAD when there is one image alone; TAKEN when the top image has snapshots; "
            + "FULL when in the image below, as it is before, there is no room for all clusters "
            + "that are taken in this (a cluster that becomes free on the way is no room).");
        on("BAD: a new object's image, and the one that is left after a commit", 10, x -> {
            x.commit().is(BAD);
            x.overlay().is(2);
            x.commit().is(0);
            x.commit().is(BAD);
            x.images().is(1);
        }).broken("public int commit(", "return BAD;", "return 0;");
        on("BAD before TAKEN", 10, x -> {
            x.snapshot(1).is(0);
            x.commit().is(BAD);
        }).broken("public int commit(", "if (lower == null) {",
            "if (upper.snapshotCount() > 0) {\n            return TAKEN;\n        }\n"
            + "        if (lower == null) {");
        on("TAKEN: one snapshot, four, and none any more", 10, x -> {
            x.overlay().is(2);
            x.snapshot(1).is(0);
            x.commit().is(TAKEN);
            x.snapshot(2).is(0);
            x.snapshot(3).is(0);
            x.snapshot(4).is(0);
            x.commit().is(TAKEN);
            for (int name = 1; name <= 4; name++) {
                x.delete(name).is(0);
            }
            x.commit().is(0);
        }).broken("public int commit(", "snapshotCount() > 0", "snapshotCount() > 1")
            .broken("public int commit(", "snapshotCount() > 0", "snapshotCount() == 1");
        on("not TAKEN: snapshots of the image below", 10, x -> {
            x.snapshot(1).is(0);
            x.overlay().is(2);
            x.commit().is(0);
        }).broken("public int commit(", "upper.snapshotCount() > 0",
            "upper.snapshotCount() + lower.snapshotCount() > 0");
        on("TAKEN before FULL", 64, x -> {
            x.fill(0);
            x.overlay().is(2);
            x.write(56, 1).is(2);
            x.snapshot(1).is(0);
            x.commit().is(TAKEN);
            x.delete(1).is(0);
            x.commit().is(FULL);
        }).broken("public int commit(", "if (upper.snapshotCount() > 0) {",
            "if (lower.file.room() < lower.takingsFor(upper)) {\n            return FULL;\n"
            + "        }\n        if (upper.snapshotCount() > 0) {");
    }

    private void commitFull() {
        on("one cluster, and room for none or one", 64, x -> {
            x.fill(1);
            x.overlay().is(2);
            x.write(56, 1).is(2);
            x.commit().is(1);
            x.used().is(64);
            x.overlay().is(2);
            x.write(120, 1).is(2);
            x.commit().is(FULL);
            x.images().is(2);
        }).broken("int takeIn(", "file.room() < takingsFor(upper)",
            "file.room() <= takingsFor(upper)")
            .broken("int takeIn(", "file.room() < takingsFor(upper)",
                "file.room() < takingsFor(upper) - 1");
        on("nothing to take, and no room", 64, x -> {
            x.fill(0);
            x.overlay().is(2);
            x.commit().is(0);
            x.overlay().is(2);
            x.write(0, 9).is(2);
            x.discard(63).is(1);
            x.commit().is(2);
            x.read(0).is(9);
            x.used().is(64);
        }).broken("int takeIn(", "file.room() < takingsFor(upper)",
            "file.room() <= takingsFor(upper)");
        on("the leaf of two blocks counts once: room for three of three", 64, x -> {
            threeLeft(x);
            x.write(0, 9).is(2);
            x.write(8, 9).is(1);
            x.commit().is(2);
            x.used().is(64);
        }).broken("private int takingsFor(", "leafCounted = block / EIGHT;", "");
        on("two leaves and two clusters, and room for three", 64, x -> {
            threeLeft(x);
            x.write(0, 9).is(2);
            x.write(64, 9).is(2);
            x.commit().is(FULL);
        }).broken("private int takingsFor(", "leafCounted != block / EIGHT", "leafCounted < 0");
        on("three blocks of one leaf, and room for three", 64, x -> {
            threeLeft(x);
            x.write(0, 9).is(2);
            x.write(8, 9).is(1);
            x.write(16, 9).is(1);
            x.commit().is(FULL);
        }).broken("private int takingsFor(", "takings += leavesFor(block);", "");
    }

    /** Below, a file with a snapshot that shares all leaves, and room for three; a new file above. */
    private static void threeLeft(Calls x) {
        x.fill(5);
        x.snapshot(1).is(0);
        x.used().is(61);
        x.overlay().is(2);
    }

    private void commitFullCounts() {
        on("FULL: a leaf alone for a ZERO block, and no room", 64, x -> {
            x.fill(2);
            x.snapshot(1).is(0);
            x.overlay().is(2);
            x.discard(0).is(1);
            x.commit().is(FULL);
        }).broken("private int takingsFor(", "isLead(word) || word == ZERO && dropChanges(block)",
            "isLead(word)");
        on("a leaf alone for two ZERO blocks, and room for one", 64, x -> {
            x.fill(3);
            x.snapshot(1).is(0);
            x.overlay().is(2);
            x.discard(0).is(1);
            x.discard(1).is(0);
            x.commit().is(2);
            x.used().is(64);
        }).broken("private int takingsFor(", "leafCounted = block / EIGHT;", "");
        on("ZERO blocks that nothing changes for take no leaf, and no room", 64, x -> {
            x.fill(1);
            x.discard(0).is(0);
            x.snapshot(1).is(0);
            x.used().is(64);
            x.overlay().is(2);
            x.discard(0).is(1);
            x.discard(7).is(0);
            x.commit().is(2);
            x.used().is(64);
        }).broken("private int takingsFor(", "word == ZERO && dropChanges(block)", "word == ZERO");
        on("count clusters are no room: seven of the last eight", 64, x -> {
            x.fill(7);
            x.overlay().is(2);
            for (int i = 0; i < 8; i++) {
                x.write(64 * i + 56, 1).is(2);
            }
            x.commit().is(FULL);
            x.discard(7).is(0);
            x.commit().is(8);
            x.used().is(64);
        }).broken("int room()", "room -= at(at(HEADER, COUNT_TABLE), i) == 0 ? 1 : 0;", "");
        on("as it is before: blocks that its size has not take, too", 8, x -> {
            x.write(0, 1).is(2);
            x.overlay().is(2);
            x.grow(64).is(0);
            for (int n = 0; n < 45; n++) {
                x.write(64 * (1 + n % 7) + 8 * (n / 7), n).is(n < 7 ? 2 : 1);
            }
            x.used().is(63);
            x.commit().is(FULL);
            x.discard(8).is(0);
            x.commit().is(45);
            x.used().is(64);
        }).broken("private int takingsFor(", "block < MOST_BLOCKS", "block < blocks()");
    }

    private void commitFreed() {
        on("FULL: a cluster that becomes free on the way is no room", 64, x -> {
            x.fill(0);
            x.overlay().is(2);
            x.discard(0).is(1);
            x.write(56, 9).is(1);
            x.commit().is(FULL);
            x.images().is(2);
            x.read(56).is(9);
            x.read(0).is(0);
        }).broken("private int takingsFor(", "if (changes && leafCounted",
            "takings -= word == ZERO && isOwn(activeWord(block)) ? 1 : 0;\n"
            + "                if (changes && leafCounted");
        on("FULL: many that become free, and room for one less than is taken", 64, x -> {
            x.fill(2);
            x.overlay().is(2);
            for (int block = 0; block < 5; block++) {
                x.discard(block).is(block == 0 ? 1 : 0);
            }
            x.write(48, 9).is(1);
            x.write(56, 9).is(1);
            x.write(120, 9).is(2);
            x.commit().is(FULL);
            x.discard(6).is(0);
            x.commit().is(8);
            x.used().is(64 - 5);
        }).broken("int takeIn(", "if (file.room() < takingsFor(upper)) {",
            "if (file.room() + 1 < takingsFor(upper)) {");
    }

    private void commitAnswers() {
        says("Answers how many blocks had a cluster or were ZERO in the top image.");
        on("none", 10, x -> {
            x.overlay().is(2);
            x.commit().is(0);
        }).broken("int takeIn(", "int takenIn = 0;", "int takenIn = 1;");
        on("all 64 of the greatest size", 64, x -> {
            x.overlay().is(2);
            for (int block = 0; block < 64; block++) {
                x.discard(block).is(block % 8 == 0 ? 1 : 0);
            }
            for (int n = 0; n < 40; n++) {
                x.write(64 * (n % 8) + 8 * (n / 8), n).is(1);
            }
            x.commit().is(64);
            x.used().is(4 + 40 + 8 + 7);
        }).broken("int takeIn(", "block < MOST_BLOCKS", "block < MOST_BLOCKS - 1");
        on("ZERO blocks that changed nothing count, absent ones don't", 10, x -> {
            x.write(0, 1).is(2);
            x.overlay().is(2);
            x.discard(0).is(1);
            x.discard(5).is(0);
            x.write(8, 2).is(1);
            x.commit().is(3);
        }).broken("int takeIn(", "word == ABSENT ? 0 : 1",
            "isLead(word) || word == ZERO && block == 0 ? 1 : 0");
    }

    private void grow() {
        says("The size (of the top image alone) becomes the one given; its new blocks are absent.");
        on("by one, into a leaf that is there", 7, x -> {
            x.write(55, 1).is(2);
            x.grow(8).is(0);
            x.size().is(8);
            x.word(0, 2).is(8);
            x.cluster(0, 4, 0, 0, 0, 0, 0, 0, 21, 0);
            x.read(63).is(0);
            x.discard(7).is(0);
            x.write(63, 1).is(1);
            x.write(64, 1).is(BAD);
        }).broken("public int grow(", "top().file.put(HEADER, SIZE, size);",
            "top().file.put(HEADER, SIZE, size + 1);");
        on("from the least size to the greatest", 1, x -> {
            x.grow(64).is(0);
            x.size().is(64);
            x.used().is(4);
            x.cluster(0, 3);
            x.read(511).is(0);
            x.write(511, 1).is(2);
            x.write(512, 1).is(BAD);
        }).broken("", "MOST_BLOCKS = 64", "MOST_BLOCKS = 63");
        on("of the top image alone", 7, x -> {
            x.overlay().is(2);
            x.overlay().is(3);
            x.grow(8).is(0);
            x.word(0, 2).is(8);
            x.word(1, 2).is(7);
            x.word(2, 2).is(7);
        }).broken("public int grow(", "top().file.put(HEADER, SIZE, size);",
            "top().file.put(HEADER, SIZE, size);\n"
            + "        if (height > 1) { chain[0].file.put(HEADER, SIZE, size); }");
        on("a new block is absent, over an image too", 7, x -> {
            x.overlay().is(2);
            x.write(55, 1).is(2);
            x.grow(8).is(0);
            x.cluster(0, 4, 0, 0, 0, 0, 0, 0, 21, 0);
            x.discard(7).is(0);
            x.cluster(0, 4, 0, 0, 0, 0, 0, 0, 21, 2);
        }).broken("public int grow(", "top().file.put(HEADER, SIZE, size);",
            "top().file.put(HEADER, SIZE, size);\n        top().dropBlock(size - 1);");
    }

    private void growRefused() {
        says("Refused: BAD when that isn't above the size, or is above 64.");
        on("the size itself, and one less", 10, x -> {
            x.grow(10).is(BAD);
            x.grow(9).is(BAD);
            x.size().is(10);
        }).broken("public int grow(", "size <= top().blocks()", "size < top().blocks()")
            .broken("public int grow(", "size <= top().blocks()", "size == top().blocks()");
        on("one above the size, and 64", 10, x -> {
            x.grow(11).is(0);
            x.grow(64).is(0);
        }).broken("public int grow(", "size <= top().blocks()", "size <= top().blocks() + 1")
            .broken("public int grow(", "size > MOST_BLOCKS", "size >= MOST_BLOCKS");
        on("65, from the greatest size and from the least", 64, x -> {
            x.grow(65).is(BAD);
            x.grow(64).is(BAD);
            x.size().is(64);
        }).broken("public int grow(", "size > MOST_BLOCKS", "size > MOST_BLOCKS + 1");
        on("0, less than 0 and the numbers furthest out", 1, x -> {
            x.grow(1).is(BAD);
            x.grow(0).is(BAD);
            x.grow(-1).is(BAD);
            x.grow(MIN).is(BAD);
            x.grow(65).is(BAD);
            x.grow(MAX).is(BAD);
            x.size().is(1);
        }).broken("public int grow(", "size <= top().blocks()",
            "size > 0 && size <= top().blocks()")
            .broken("public int grow(", "size > MOST_BLOCKS", "size * 2 > 2 * MOST_BLOCKS");
        on("by the top image's size", 10, x -> {
            x.overlay().is(2);
            x.grow(20).is(0);
            x.grow(15).is(BAD);
            x.grow(20).is(BAD);
        }).broken("public int grow(", "top().blocks()", "chain[0].blocks()");
        says("Otherwise answers 0.");
        on("the least that there is", 63, x -> x.grow(64).is(0))
            .broken("public int grow(", "return 0;", "return size;");
    }

    private void size() {
        says("The size.");
        on("the least, a greater one, the greatest", 1, x -> {
            x.size().is(1);
            x.grow(2).is(0);
            x.size().is(2);
            x.grow(64).is(0);
            x.size().is(64);
        }).broken("public int size(", "return top().blocks();", "return top().blocks() & 63;");
        on("the top image's", 3, x -> {
            x.overlay().is(2);
            x.grow(5).is(0);
            x.size().is(5);
            x.commit().is(0);
            x.size().is(5);
        }).broken("public int size(", "top()", "chain[0]");
    }

    private void images() {
        says("How many images the chain has.");
        on("1, 2, 3, and 3 after one that was refused", 3, x -> {
            x.images().is(1);
            x.overlay().is(2);
            x.images().is(2);
            x.overlay().is(3);
            x.images().is(3);
            x.overlay().is(MANY);
            x.images().is(3);
            x.commit().is(0);
            x.images().is(2);
        }).broken("public int images(", "return height;", "return height - height / 3;");
        on("1 after a load", 3, x -> {
            x.stage(0, 7001, 1, 9, 3).is(1);
            x.stage(1, 1, 0, 0, 0).is(1);
            x.stage(2, 2, 0, 0, 0).is(1);
            x.stage(4, 1, 1, 1, 1).is(1);
            x.overlay().is(2);
            x.overlay().is(3);
            x.load().is(0);
            x.images().is(1);
        }).broken("public int load(", "height = 1;", "height = 2;");
    }

    private void used() {
        says("How many clusters have a count above 0.");
        on("the least there are, four, and the most, 64", 64, x -> {
            x.used().is(4);
            x.fill(0);
            x.used().is(64);
        }).broken("int clustersInUse()", "cluster < CLUSTERS", "cluster < LAST_CLUSTER")
            .broken("int clustersInUse()", "int cluster = 0", "int cluster = 1");
        on("a count above 1 counts once", 10, x -> {
            x.write(0, 1).is(2);
            for (int name = 0; name < 4; name++) {
                x.snapshot(name).is(0);
            }
            x.used().is(12);
        }).broken("int clustersInUse()", "count(cluster) > 0 ? 1 : 0", "count(cluster)");
        on("the top image's", 10, x -> {
            x.write(0, 1).is(2);
            x.overlay().is(2);
            x.used().is(4);
        }).broken("public int used(", "top()", "chain[0]");
    }

    private void word() {
        says("Word p of the file of an image: 0 is the top one, 1 the one below it, and so on; 0 "
            + "when there is no such image or word.");
        on("0, 1 and 2 of three images, and no fourth", 1, x -> {
            x.overlay().is(2);
            x.grow(2).is(0);
            x.overlay().is(3);
            x.grow(3).is(0);
            x.word(0, 2).is(3);
            x.word(1, 2).is(2);
            x.word(2, 2).is(1);
            x.word(3, 2).is(0);
            x.word(-1, 2).is(0);
        }).broken("public int word(", "image >= height", "image > height")
            .broken("public int word(", "image < 0 ||", "")
            .broken("public int word(", "height - 1 - image", "image");
        on("no image that has ended", 2, x -> {
            x.overlay().is(2);
            x.grow(3).is(0);
            x.commit().is(0);
            x.word(0, 2).is(3);
            x.word(1, 2).is(0);
            x.word(-1, 2).is(0);
        }).broken("public int word(", "image < 0 || image >= height || p",
            "image < 0 - (height == 1 ? 1 : 0) || image >= height || p");
        on("the words 0 and 511, and those beside", 64, x -> {
            x.fill(0);
            x.write(303, 7).is(0);
            x.word(0, 0).is(7001);
            x.word(0, 511).is(7);
            x.word(0, -1).is(0);
            x.word(0, -8).is(0);
            x.word(0, 512).is(0);
        }).broken("public int word(", "p < 0 ||", "").broken("public int word(",
            "p >= FILE_WORDS", "p > FILE_WORDS")
            .broken("public int word(", "p >= FILE_WORDS", "p >= FILE_WORDS - 1");
        on("the numbers furthest out, and those that wrap around", 64, x -> {
            x.fill(0);
            x.write(303, 7).is(0);
            x.word(0, MIN).is(0);
            x.word(0, MAX).is(0);
            x.word(0, 1 << 29).is(0);
            x.word(0, -512).is(0);
            x.word(MIN, 0).is(0);
            x.word(MIN + 1, 0).is(0);
            x.word(MAX, 0).is(0);
            x.word(MIN, MIN).is(0);
            x.word(MAX, MAX).is(0);
            x.word(1, 0).is(0);
        }).broken("public int word(", "p < 0 || p >= FILE_WORDS", "false")
            .broken("public int word(", "image < 0 || image >= height",
                "height - 1 - image < 0");
    }

    private void stage() {
        says("Puts four words on the stage, as its words 4 * p .. 4 * p + 3.");
        on("each of the four, in the first part", 5, x -> {
            x.stage(1, 1, 0, 0, 0).is(1);
            x.stage(2, 2, 0, 0, 0).is(1);
            x.stage(4, 1, 1, 1, 1).is(1);
            x.stage(0, 7001, 1, 9, 3).is(1);
            x.load().is(0);
            x.stage(0, 7001, 1, 9, 0).is(1);
            x.load().is(2);
            x.stage(0, 7001, 1, 0, 3).is(1);
            x.load().is(1);
            x.stage(0, 7001, 0, 9, 3).is(1);
            x.load().is(1);
            x.stage(0, 0, 1, 9, 3).is(1);
            x.load().is(1);
        }).broken("public boolean stage(", "staged.put(cluster, place + 1, b);",
            "staged.put(cluster, place + 1, 1);")
            .broken("public boolean stage(", "place + 3, d", "place + 3, 3");
        on("each of the four, in the last part", 5, x -> {
            x.stage(1, 1, 0, 0, 0).is(1);
            x.stage(2, 2, 0, 0, 0).is(1);
            x.stage(4, 1, 1, 1, 1).is(1);
            x.stage(0, 7001, 1, 9, 3).is(1);
            for (int i = 0; i < 4; i++) {
                x.stage(127, i == 0 ? 1 : 0, i == 1 ? MIN : 0, i == 2 ? 2 : 0, i == 3 ? -1 : 0)
                    .is(1);
                x.load().is(6);
            }
            x.stage(127, 0, 0, 0, 0).is(1);
            x.load().is(0);
        }).broken("public boolean stage(", "staged.put(cluster, place + 2, c);", "")
            .broken("public boolean stage(", "p * PART_WORDS % EIGHT", "0");
        on("any int: the words furthest out, in a block's cluster", 5, x -> {
            x.stage(0, 7001, 1, 1, 3).is(1);
            x.stage(1, 1, 0, 0, 0).is(1);
            x.stage(2, 2, 0, 0, 0).is(1);
            x.stage(4, 1, 1, 1, 1).is(1);
            x.stage(5, 1, 1, 0, 0).is(1);
            x.stage(6, 17, 0, 0, 0).is(1);
            x.stage(8, 21, 0, 0, 0).is(1);
            x.stage(10, MIN, MAX, -1, 0).is(1);
            x.stage(11, 4, 5, 6, 7).is(1);
            x.load().is(0);
            x.cluster(0, 5, MIN, MAX, -1, 0, 4, 5, 6, 7);
        }).broken("public boolean stage(", "staged.put(cluster, place, a);",
            "staged.put(cluster, place, Math.abs(a + 1) - 1);");
    }

    private void stageAnswers() {
        says("Answers true; false when p is not 0 .. 127.");
        on("-1, 0, 127 and 128", 5, x -> {
            x.stage(-1, 0, 0, 0, 0).is(0);
            x.stage(0, 0, 0, 0, 0).is(1);
            x.stage(127, 0, 0, 0, 0).is(1);
            x.stage(128, 0, 0, 0, 0).is(0);
        }).broken("public boolean stage(", "p < 0", "p < -1")
            .broken("public boolean stage(", "p < 0", "p <= 0")
            .broken("", "STAGE_PARTS = 128", "STAGE_PARTS = 129")
            .broken("", "STAGE_PARTS = 128", "STAGE_PARTS = 127");
        on("false puts nothing there, the numbers that wrap around too", 5, x -> {
            x.stage(0, 7001, 1, 9, 3).is(1);
            x.stage(1, 1, 0, 0, 0).is(1);
            x.stage(2, 2, 0, 0, 0).is(1);
            x.stage(4, 1, 1, 1, 1).is(1);
            x.stage(-1, 1, 1, 1, 1).is(0);
            x.stage(128, 1, 1, 1, 1).is(0);
            x.stage(-128, 1, 1, 1, 1).is(0);
            x.stage(1 << 30, 1, 1, 1, 1).is(0);
            x.stage(MIN, 1, 1, 1, 1).is(0);
            x.stage(MAX, 1, 1, 1, 1).is(0);
            x.load().is(0);
        }).broken("public boolean stage(", "p < 0 || p >= STAGE_PARTS",
            "p * PART_WORDS < 0 || p * PART_WORDS >= FILE_WORDS")
            .broken("public boolean stage(", "return false;", "p = p & 127;");
    }
}
