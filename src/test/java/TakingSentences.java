import java.util.Arrays;

/** The terms from taking on: room, the new file, the chain, refused calls and the constants. */
final class TakingSentences extends Sentences {
    TakingSentences() {
        under("Terms");
        taking();
        takingCountClusters();
        room();
        roomForOneAndTwo();
        free();
        countClusterStays();
        newFile();
        chain();
        shownInTop();
        shownFromBelow();
        refusedChanges();
        refusedInChain();
        topImage();
        constants();
    }

    private void taking() {
        says("TAKING a cluster: the least one with count 0 is taken; but if it lies where there "
            + "is no count cluster yet (word c / 8 of the count table is 0), it first becomes that "
            + "count cluster itself, and then the least one with count 0 is taken.");
        on("a hole below is the least one", 10, x -> {
            x.write(0, 1).is(2);
            x.write(8, 2).is(1);
            x.write(16, 3).is(1);
            x.discard(0).is(0);
            x.write(24, 4).is(1);
            x.cluster(0, 4, 2, 25, 29, 21);
        }).broken("private int leastFree(", "int cluster = 1;", "int cluster = 6;");
        on("cluster 1 is the least one, when a file has left it free", 1, x -> {
            x.stage(0, 7001, 1, 64, 60).is(1);
            x.stage(1, 63, 0, 0, 0).is(1);
            x.stage(126, 61, 0, 0, 0).is(1);
            x.stage(127, 0, 0, 0, 62).is(1);
            x.stage(122, 1, 0, 0, 0).is(1);
            x.stage(125, 1, 1, 1, 1).is(1);
            x.load().is(0);
            x.write(0, 9).is(2);
            x.cluster(0, 60, 5);
            x.cluster(0, 1, 9);
            x.cluster(0, 2, 9);
        }).broken("private int leastFree(", "int cluster = 1;", "int cluster = 2;");
        on("the last of the first eight is taken as it is", 64, x -> {
            x.write(0, 1).is(2);
            x.write(64, 1).is(2);
            x.cluster(0, 1, 2);
            x.cluster(0, 6, 29);
            x.cluster(0, 7, 1);
        }).broken("private int leastFree(", "count(cluster) > 0",
            "(count(cluster) > 0 || cluster == 7)");
    }

    private void takingCountClusters() {
        on("the first of the next eight becomes the count cluster", 64, x -> {
            x.write(0, 1).is(2);
            x.write(64, 1).is(2);
            x.write(8, 3).is(1);
            x.cluster(0, 1, 2, 8);
            x.cluster(0, 8, 1, 1);
            x.cluster(0, 9, 3);
            x.cluster(0, 4, 21, 37);
        }).broken("int take()", "addToCount(cluster, 1);\n                cluster = leastFree();",
            "addToCount(cluster, 1);\n                cluster = LAST_CLUSTER;");
        on("a count cluster comes between the leaf and the cluster", 64, x -> {
            x.write(0, 1).is(2);
            x.write(8, 2).is(1);
            x.write(64, 3).is(2);
            x.cluster(0, 3, 17, 29);
            x.cluster(0, 7, 37);
            x.cluster(0, 8, 1, 1);
            x.cluster(0, 9, 3);
        }).broken("int take()", "at(countTable, cluster / EIGHT) == 0",
            "at(countTable, (cluster + 7) / EIGHT) == 0");
        on("the last eight get their count cluster and then all are taken", 64, x -> {
            x.fill(7);
            x.write(496, 1).is(1);
            x.cluster(0, 56, 1, 1);
            for (int i = 0; i < 6; i++) {
                x.write(64 * i + 56, i).is(1);
            }
            x.cluster(0, 56, 1, 1, 1, 1, 1, 1, 1, 1);
            x.cluster(0, 63, 5);
        }).broken("private int leastFree(", "cluster < LAST_CLUSTER", "cluster < LAST_CLUSTER - 1");
    }

    private void room() {
        says("There is ROOM for n clusters when at least n can be taken so, one after the other "
            + "(clusters that become count clusters aren't among the n).");
        on("eight without a count cluster have room for seven", 64, x -> {
            x.fill(7);
            x.overlay().is(2);
            for (int i = 0; i < 7; i++) {
                x.write(64 * i + 56, i).is(2);
            }
            x.commit().is(7);
            x.used().is(64);
        }).broken("int room()", "at(at(HEADER, COUNT_TABLE), i) == 0 ? 1 : 0",
            "at(at(HEADER, COUNT_TABLE), i) == 0 ? 2 : 0");
        on("and no room for eight", 64, x -> {
            x.fill(7);
            x.overlay().is(2);
            for (int i = 0; i < 8; i++) {
                x.write(64 * i + 56, i).is(2);
            }
            x.commit().is(FULL);
        }).broken("int room()", "at(at(HEADER, COUNT_TABLE), i) == 0 ? 1 : 0",
            "at(at(HEADER, COUNT_TABLE), i) == 0 ? 0 : 0");
        on("a new file has room for 53", 64, x -> {
            x.overlay().is(2);
            intoEight(x, 45);
            x.commit().is(45);
            x.used().is(64);
        }).broken("int room()", "int room = CLUSTERS - ", "int room = LAST_CLUSTER - ");
        on("and behind these for none", 64, x -> {
            x.overlay().is(2);
            intoEight(x, 45);
            x.commit().is(45);
            x.overlay().is(2);
            x.write(496, 1).is(2);
            x.commit().is(FULL);
        }).broken("int room()", "int room = CLUSTERS - ", "int room = 1 + CLUSTERS - ");
    }

    /** Blocks of all eight leaves, as many as are told. */
    private static void intoEight(Calls x, int blocks) {
        for (int n = 0; n < blocks; n++) {
            x.write(64 * (n % 8) + 8 * (n / 8), 1 + n).is(n < 8 ? 2 : 1);
        }
    }

    private void roomForOneAndTwo() {
        on("no room: one can't be taken", 64, x -> {
            x.fill(0);
            x.used().is(64);
            x.write(56, 1).is(FULL);
        }).broken("int putWord(", "file.room() < takings", "file.room() + 1 < takings");
        on("room for one: one can be taken", 64, x -> {
            x.fill(1);
            x.used().is(63);
            x.write(56, 1).is(1);
            x.used().is(64);
        }).broken("int putWord(", "file.room() < takings", "file.room() <= takings");
        on("room for one: two can't be taken", 64, x -> {
            x.fill(3);
            x.snapshot(1).is(0);
            x.used().is(63);
            x.write(0, 2).is(FULL);
        }).broken("int putWord(", "file.room() < takings", "file.room() < 1");
        on("room for two: two can be taken", 64, x -> {
            x.fill(4);
            x.snapshot(1).is(0);
            x.used().is(62);
            x.write(0, 2).is(2);
            x.used().is(64);
        }).broken("int putWord(", "file.room() < takings", "file.room() <= takings");
    }

    private void free() {
        says("A cluster whose count falls to 0 is free again at once.");
        on("in a full file one comes free and is taken", 64, x -> {
            x.fill(0);
            x.write(56, 1).is(FULL);
            x.discard(37).is(0);
            x.used().is(63);
            x.write(56, 7).is(1);
            x.used().is(64);
            x.word(0, 504).is(7);
        }).broken("private void release(", "file.addToCount(clusterOf(word), -1);", "");
        on("on the way of a commit one comes free and the next block takes it", 10, x -> {
            x.write(0, 1).is(2);
            x.overlay().is(2);
            x.discard(0).is(1);
            x.write(8, 2).is(1);
            x.commit().is(2);
            x.cluster(0, 4, 2, 21);
            x.cluster(0, 5, 2);
            x.cluster(0, 6);
        }).broken("int takeIn(", "block = 0; block < MOST_BLOCKS; block++",
            "block = MOST_BLOCKS - 1; block >= 0; block--");
        on("with the last snapshot of two, all that it alone led to", 10, x -> {
            x.snapshot(1).is(0);
            x.write(0, 1).is(2);
            x.snapshot(2).is(0);
            x.discard(0).is(1);
            x.used().is(11);
            x.delete(2).is(0);
            x.used().is(8);
        }).broken("void removeSnapshot(", "countTable(table, -1);", "");
    }

    private void countClusterStays() {
        says("A count cluster stays for ever.");
        on("when all that it counts is free but itself", 10, x -> {
            x.write(0, 1).is(2);
            x.snapshot(1).is(0);
            x.write(0, 2).is(2);
            x.used().is(11);
            x.revert(1).is(0);
            x.delete(1).is(0);
            x.used().is(7);
            x.cluster(0, 1, 2, 8);
            x.cluster(0, 8, 1);
        }).broken("void returnTo(", "tellFlags();",
            "tellFlags();\n            file.put(1, 1, 0);");
        on("all eight, when the file is empty again", 64, x -> {
            x.fill(0);
            for (int block = 0; block < 64; block++) {
                x.discard(block).is(0);
            }
            x.used().is(4 + 7 + 8);
            x.cluster(0, 1, 2, 8, 16, 24, 32, 40, 48, 56);
            x.cluster(0, 56, 1);
        }).broken("void addToCount(", "if (count == 0) {",
            "if (count == 0 && cluster == LAST_CLUSTER) {\n"
            + "                put(1, 7, 0);\n            }\n            if (count == 0) {");
    }

    private void newFile() {
        says("A NEW file of a size: the header, the count table in cluster 1, a count cluster for "
            + "the clusters 0 .. 7 in cluster 2, the active table in cluster 3; nothing else.");
        test("every word, of the least size", checks ->
            checks.same("the file", file(checks, 1, 0, x -> { }), newWords(1)))
            .broken("void format(", "put(1, 0, 2);", "put(1, 0, 2);\n            put(3, 1, 2);");
        test("every word, of the greatest size", checks ->
            checks.same("the file", file(checks, 64, 0, x -> { }), newWords(64)))
            .broken("void format(", "cluster <= 3", "cluster <= 4");
        test("every word, where a file has been before", checks -> {
            int[] words = file(checks, 3, 0, x -> {
                x.overlay().is(2);
                for (int block = 0; block < 3; block++) {
                    x.write(8 * block + 7, 5);
                }
                x.commit().is(3);
                x.overlay().is(2);
            });
            checks.same("the file", words, newWords(3));
        }).broken("void format(", "words[i] = 0;", "words[i] = words[i];")
            .broken("void format(", "i < FILE_WORDS", "i < EIGHT * 7");
    }

    private static int[] newWords(int size) {
        int[] first = {7001, 1, size, 3, 1, 0, 0, 0, 2, 0, 0, 0, 0, 0, 0, 0, 1, 1, 1, 1};
        return Arrays.copyOf(first, 512);
    }

    private void chain() {
        says("THE CHAIN has 1 to 3 images: the TOP one, which can change, and those below it.");
        on("one, two, three and no more", 4, x -> {
            x.images().is(1);
            x.overlay().is(2);
            x.overlay().is(3);
            x.overlay().is(MANY);
            x.images().is(3);
            x.word(2, 0).is(7001);
            x.word(3, 0).is(0);
        }).broken("", "MOST_IMAGES = 3", "MOST_IMAGES = 4");
        on("back to one and no less", 4, x -> {
            x.overlay().is(2);
            x.commit().is(0);
            x.images().is(1);
            x.commit().is(BAD);
            x.images().is(1);
        }).broken("public int commit(", "if (lower == null) {\n            return BAD;",
            "if (lower == null) {\n            return upper.blocks();");
        test("those below don't change", checks -> {
            int[] before = file(checks, 9, 0, x -> x.write(0, 1).is(2));
            int[] after = file(checks, 9, 1, x -> {
                x.write(0, 1).is(2);
                x.overlay().is(2);
                x.write(0, 2).is(2);
                x.discard(8).is(1);
                x.snapshot(3).is(0);
                x.grow(64).is(0);
            });
            checks.same("the file below", after, before);
        }).broken("int dropBlock(", "makeZero(block);",
            "makeZero(block);\n            if (below != null) { below.file.put(63, 7, 1); }");
    }

    private void shownInTop() {
        says("A word of a block as a table shows it: if the table leads to a cluster for the "
            + "block, it is the word in that cluster; if the block is ZERO there, 0; if it is "
            + "ABSENT, what the active table of the image below shows (the same address; ABSENT "
            + "for blocks that its size has not), or 0 when there is no image below.");
        on("a cluster's word, also when it is 0 over another", 4, x -> {
            x.write(3, 9).is(2);
            x.overlay().is(2);
            x.write(3, 0).is(2);
            x.read(3).is(0);
        }).broken("int shown(", "return isLead(word) ? image.file.at(clusterOf(word), address % EIGHT) : 0;",
            "int found = isLead(word) ? image.file.at(clusterOf(word), address % EIGHT) : 0;\n"
            + "            return found == 0 && image.below != null"
            + " ? image.below.shown(image.below.activeTable(), address) : found;");
        on("ZERO is 0 over an image", 4, x -> {
            x.write(3, 9).is(2);
            x.overlay().is(2);
            x.discard(0).is(1);
            x.read(3).is(0);
        }).broken("int shown(", "word == ABSENT && image.below", "word <= ZERO && image.below");
        on("ABSENT is 0 when there is no image below, with a leaf and without", 10, x -> {
            x.read(79).is(0);
            x.write(0, 5).is(2);
            x.read(8).is(0);
        }).broken("int shown(", "address % EIGHT) : 0;", "address % EIGHT) : 1;");
        on("ZERO is 0 when there is no image below", 10, x -> {
            x.write(8, 5).is(2);
            x.discard(1).is(0);
            x.read(8).is(0);
        }).broken("int shown(", "address % EIGHT) : 0;", "address % EIGHT) : word;");
    }

    private void shownFromBelow() {
        on("ABSENT shows the image below, with a leaf and without", 10, x -> {
            x.write(15, 6).is(2);
            x.write(79, 7).is(2);
            x.overlay().is(2);
            x.write(0, 1).is(2);
            x.read(15).is(6);
            x.read(79).is(7);
        }).broken("int shown(", "image.below != null",
            "image.below != null && isLead(leafLead(address / EIGHT))")
            .broken("int shown(", "word = image.activeWord(address / EIGHT);", "word = ZERO;");
        on("through two images, and ZERO in the middle", 10, x -> {
            x.write(7, 6).is(2);
            x.write(8, 7).is(1);
            x.overlay().is(2);
            x.discard(1).is(1);
            x.overlay().is(3);
            x.read(7).is(6);
            x.read(8).is(0);
        }).broken("int shown(", "while (word == ABSENT && image.below != null) {",
            "if (word == ABSENT && image.below != null) {");
        on("the active table below, not its snapshot's", 10, x -> {
            x.write(0, 6).is(2);
            x.snapshot(1).is(0);
            x.write(0, 7).is(2);
            x.overlay().is(2);
            x.read(0).is(7);
            x.snapshot(1).is(0);
            x.readOld(1, 0).is(7);
        }).broken("int shown(", "word = image.activeWord(address / EIGHT);",
            "word = image.blockWord(image.snapshotCount() > 0"
            + " ? image.snapshotTable(0) : image.activeTable(), address / EIGHT);");
        on("blocks that the size below has not", 1, x -> {
            x.write(7, 6).is(2);
            x.overlay().is(2);
            x.grow(64).is(0);
            x.read(7).is(6);
            x.read(8).is(0);
            x.read(71).is(0);
            x.read(511).is(0);
            x.write(510, 1).is(2);
            x.read(511).is(0);
        }).broken("int shown(", "word = image.activeWord(address / EIGHT);",
            "word = image.activeWord(address / EIGHT % image.blocks());");
        on("blocks that the size in the middle has not", 1, x -> {
            x.write(7, 6).is(2);
            x.overlay().is(2);
            x.overlay().is(3);
            x.grow(2).is(0);
            x.read(15).is(0);
            x.read(7).is(6);
        }).broken("int shown(", "word = image.activeWord(address / EIGHT);",
            "word = image.activeWord(address / EIGHT % image.blocks());");
    }

    private void refusedChanges() {
        says("A call that is refused changes nothing.");
        nothingChanges("write, BAD", 9, x -> x.write(71, 1).is(2), x -> {
            x.write(72, 2).is(BAD);
            x.write(-1, 2).is(BAD);
        }).broken("public int write(", ": BAD;", ": BAD + 0 * top().dropBlock(8);");
        nothingChanges("write, FULL with room for one of two", 64, x -> {
            x.fill(3);
            x.snapshot(1).is(0);
        }, x -> x.write(0, 2).is(FULL))
            .broken("int putWord(", "if (file.room() < takings) {",
                "if (file.room() < takings) {\n                if (file.room() == 1) { file.take(); }");
        nothingChanges("discard, BAD", 9, x -> x.write(71, 1).is(2), x -> {
            x.discard(9).is(BAD);
            x.discard(-1).is(BAD);
        }).broken("public int discard(", ": BAD;", ": BAD + 0 * top().dropBlock(8);");
        nothingChanges("discard, FULL", 64, x -> {
            x.fill(2);
            x.snapshot(1).is(0);
        }, x -> x.discard(0).is(FULL))
            .broken("int dropBlock(", "return FULL;", "makeZero(block);\n                return FULL;");
        nothingChanges("snapshot, TAKEN and MANY", 9, x -> {
            for (int name = 0; name < 4; name++) {
                x.snapshot(name).is(0);
            }
        }, x -> {
            x.snapshot(0).is(TAKEN);
            x.snapshot(4).is(MANY);
        }).broken("int addSnapshot(", "return TAKEN;", "file.take();\n                return TAKEN;")
            .broken("int addSnapshot(", "return MANY;",
                "file.put(snapshotList(), 7, name);\n                return MANY;");
        nothingChanges("snapshot, FULL with room for the list alone", 64, x -> x.fill(1),
            x -> x.snapshot(0).is(FULL))
            .broken("int addSnapshot(", "return FULL;",
                "file.put(HEADER, SNAPSHOT_LIST, file.take());\n                return FULL;");
        nothingChanges("revert and delete, BAD", 9, x -> {
            x.snapshot(1).is(0);
            x.write(0, 1).is(2);
        }, x -> {
            x.revert(0).is(BAD);
            x.delete(0).is(BAD);
        }).broken("public int revert(", "return BAD;", "top().returnTo(0);\n            return BAD;")
            .broken("public int delete(", "return BAD;",
                "top().removeSnapshot(0);\n            return BAD;");
    }

    private void refusedInChain() {
        nothingChanges("overlay, MANY", 9, x -> {
            x.overlay().is(2);
            x.overlay().is(3);
            x.write(0, 1).is(2);
        }, x -> x.overlay().is(MANY))
            .broken("public int overlay(", "return MANY;",
                "top().file.format(size());\n            return MANY;");
        nothingChanges("commit, BAD", 9, x -> x.write(0, 1).is(2), x -> x.commit().is(BAD))
            .broken("public int commit(", "return BAD;",
                "upper.file.format(9);\n            return BAD;");
        nothingChanges("commit, TAKEN", 9, x -> {
            x.overlay().is(2);
            x.grow(10).is(0);
            x.write(0, 1).is(2);
            x.snapshot(1).is(0);
        }, x -> x.commit().is(TAKEN))
            .broken("public int commit(", "return TAKEN;",
                "lower.takeIn(upper);\n            return TAKEN;");
        nothingChanges("commit, FULL, with a greater size and room for a part", 63, x -> {
            for (int block = 0; block < 45; block++) {
                x.write(8 * block, 1).is(block % 8 == 0 ? 2 : 1);
            }
            x.used().is(62);
            x.overlay().is(2);
            x.grow(64).is(0);
            x.discard(0).is(1);
            x.write(400, 1).is(2);
            x.write(408, 1).is(1);
            x.write(504, 1).is(2);
        }, x -> x.commit().is(FULL))
            .broken("int takeIn(", "return FULL;",
                "file.put(HEADER, SIZE, upper.blocks());\n                return FULL;");
        nothingChanges("grow, BAD", 9, x -> x.write(0, 1).is(2), x -> {
            x.grow(9).is(BAD);
            x.grow(8).is(BAD);
            x.grow(65).is(BAD);
        }).broken("public int grow(", "return BAD;",
            "top().file.put(HEADER, SIZE, size);\n            return BAD;");
        nothingChanges("load", 9, x -> {
            x.write(0, 1).is(2);
            x.overlay().is(2);
        }, x -> x.load().is(1))
            .broken("public int load(", "if (wrong == 0) {", "if (wrong <= 1) {");
    }

    private void topImage() {
        says("Addresses, blocks and names are those of the top image, where no other one is named.");
        on("an address and a block that the image below has not", 1, x -> {
            x.overlay().is(2);
            x.grow(2).is(0);
            x.write(15, 4).is(2);
            x.read(15).is(4);
            x.discard(1).is(0);
            x.write(16, 4).is(BAD);
            x.discard(2).is(BAD);
            x.size().is(2);
        }).broken("int blocks(", "return file.at(HEADER, SIZE);",
            "return below == null ? file.at(HEADER, SIZE) : below.blocks();");
        on("a name that the image below alone has", 1, x -> {
            x.snapshot(5).is(0);
            x.overlay().is(2);
            x.revert(5).is(BAD);
            x.delete(5).is(BAD);
            x.readOld(5, 0).is(NONE);
            x.snapshot(5).is(0);
        }).broken("int snapshotNamed(", "return -1;",
            "return below == null ? -1 : below.snapshotNamed(name);");
    }

    private void constants() {
        says("The constants: `BAD = -1`: No such address, block, name, size or image.");
        on("an address, a block, a name, a size, an image that there is not", 2, x -> {
            x.write(16, 0).is(BAD);
            x.discard(2).is(BAD);
            x.revert(0).is(BAD);
            x.delete(0).is(BAD);
            x.grow(2).is(BAD);
            x.commit().is(BAD);
        }).broken("public int write(", ": BAD;", ": MANY;")
            .broken("public int grow(", "return BAD;", "return FULL;");
        constant("BAD", BAD);
        says("`FULL = -2`: There is no room.");
        on("a write, a discard and a snapshot without room", 64, x -> {
            x.fill(2);
            x.snapshot(0).is(0);
            x.write(0, 0).is(FULL);
            x.discard(0).is(FULL);
            x.snapshot(1).is(FULL);
        }).broken("int putWord(", "return FULL;", "return BAD;")
            .broken("int addSnapshot(", "return FULL;", "return MANY;");
        constant("FULL", FULL);
        says("`MANY = -3`: No more of these.");
        on("a fifth snapshot, a fourth image", 2, x -> {
            for (int name = 0; name < 4; name++) {
                x.snapshot(name).is(0);
            }
            x.snapshot(4).is(MANY);
            x.overlay().is(2);
            x.overlay().is(3);
            x.overlay().is(MANY);
        }).broken("int addSnapshot(", "return MANY;", "return FULL;")
            .broken("public int overlay(", "return MANY;", "return BAD;");
        constant("MANY", MANY);
        says("`TAKEN = -4`: Snapshots stand in the way.");
        on("a snapshot of that name, a commit of snapshots", 2, x -> {
            x.overlay().is(2);
            x.snapshot(0).is(0);
            x.snapshot(0).is(TAKEN);
            x.commit().is(TAKEN);
        }).broken("int addSnapshot(", "return TAKEN;", "return BAD;")
            .broken("public int commit(", "return TAKEN;", "return MANY;");
        constant("TAKEN", TAKEN);
        says("`NONE = 4294967296L`: What no word is.");
        on("not even the words furthest out", 1, x -> {
            x.write(0, MIN).is(2);
            x.write(1, MAX).is(0);
            x.write(2, -1).is(0);
            x.snapshot(0).is(0);
            x.readOld(0, 0).is(MIN);
            x.readOld(0, 1).is(MAX);
            x.readOld(0, 2).is(-1);
            x.readOld(1, 0).is(NONE);
        }).broken("public long readOld(", "return NONE;", "return BAD;")
            .broken("public long readOld(", "return top.shown(top.snapshotTable(number), address);",
                "return top.shown(top.snapshotTable(number), address) & 4294967295L;");
        constant("NONE", NONE);
    }

    private void constant(String name, long due) {
        test("the constant itself", checks -> {
            try {
                checks.due(name, LayeredImage.class.getField(name).getLong(null), due);
            } catch (ReflectiveOperationException gone) {
                checks.hold("there is " + name, false);
            }
        }).broken("", name + " = ", name + " = 9 + ");
    }
}
