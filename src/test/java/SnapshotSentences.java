/** The sentences of the promises 5 to 8: snapshot, revert, delete and readOld. */
final class SnapshotSentences extends Sentences {
    SnapshotSentences() {
        under("Promise 5");
        snapshot();
        listFirst();
        snapshotTaken();
        snapshotMany();
        snapshotFull();
        snapshotAnswers();
        under("Promise 6");
        revert();
        revertAgain();
        revertRefused();
        under("Promise 7");
        delete();
        deleteLast();
        deleteRefused();
        under("Promise 8");
        readOld();
        readOldNone();
    }

    private void snapshot() {
        says("Makes a snapshot: a table of its own with the words that the active one has (but "
            + "for their f), last in the list.");
        on("of an empty table", 64, x -> {
            x.snapshot(7).is(0);
            x.cluster(0, 3);
            x.cluster(0, 4, 5, 7);
            x.cluster(0, 5);
            x.used().is(6);
            x.readOld(7, 511).is(0);
        }).broken("int addSnapshot(", "file.put(snapshotList(), 2 * number, table);",
            "file.put(snapshotList(), 2 * number, activeTable());");
        on("of the first and the last word, with another f", 64, x -> {
            x.write(0, 1).is(2);
            x.write(511, 2).is(2);
            x.cluster(0, 3, 17, 0, 0, 0, 0, 0, 0, 25);
            x.snapshot(7).is(0);
            x.cluster(0, 10, 16, 0, 0, 0, 0, 0, 0, 24);
            x.cluster(0, 3, 16, 0, 0, 0, 0, 0, 0, 24);
        }).broken("int addSnapshot(", "file.copyCluster(file, activeTable(), table);",
            "file.put(table, 0, file.at(activeTable(), 0));");
        on("a table of its own: what is written later isn't in it", 64, x -> {
            x.snapshot(7).is(0);
            x.write(0, 1).is(2);
            x.cluster(0, 5);
            x.readOld(7, 0).is(0);
            x.read(0).is(1);
        }).broken("int addSnapshot(", "int table = file.take();", "int table = activeTable();");
        on("last in the list, behind those that moved up", 64, x -> {
            x.snapshot(1).is(0);
            x.snapshot(2).is(0);
            x.snapshot(3).is(0);
            x.delete(2).is(0);
            x.snapshot(4).is(0);
            x.cluster(0, 4, 5, 1, 7, 3, 6, 4, 0, 0);
        }).broken("int addSnapshot(", "file.put(snapshotList(), 2 * number + 1, name);",
            "file.put(snapshotList(), 2 * number + 1, file.at(snapshotList(), 2 * number - 1));\n"
            + "            file.put(snapshotList(), 2 * number - 1, name);");
        on("the fourth is last in the list", 64, x -> {
            for (int name = 9; name > 5; name--) {
                x.snapshot(name).is(0);
            }
            x.cluster(0, 4, 5, 9, 6, 8, 7, 7, 9, 6);
        }).broken("int addSnapshot(", "file.put(snapshotList(), 2 * number, table);",
            "file.put(snapshotList(), 2 * number % 6, table);");
    }

    private void listFirst() {
        says("The snapshot list, if there is none, is taken before the table.");
        on("the first snapshot takes both", 10, x -> {
            x.snapshot(7).is(0);
            x.word(0, 6).is(4);
            x.cluster(0, 4, 5, 7);
            x.used().is(6);
        }).broken("int addSnapshot(", "int table = file.take();",
            "int table = file.take();\n            if (number == 0) {\n"
            + "                file.put(HEADER, SNAPSHOT_LIST, table);\n"
            + "                table = 4;\n            }");
        on("the second takes a table alone", 10, x -> {
            x.snapshot(7).is(0);
            x.snapshot(8).is(0);
            x.word(0, 6).is(4);
            x.cluster(0, 4, 5, 7, 6, 8);
            x.used().is(7);
        }).broken("int addSnapshot(", "if (number == 0) {", "if (number <= 1) {");
        on("of two holes the lower is for the list", 10, x -> {
            x.write(0, 1).is(2);
            x.write(8, 1).is(1);
            x.write(16, 1).is(1);
            x.discard(2).is(0);
            x.discard(0).is(0);
            x.snapshot(7).is(0);
            x.word(0, 6).is(5);
            x.cluster(0, 5, 7, 7);
        }).broken("int addSnapshot(", "int table = file.take();",
            "int table = file.take();\n            if (number == 0) {\n"
            + "                int list = snapshotList();\n"
            + "                file.put(HEADER, SNAPSHOT_LIST, table);\n"
            + "                table = list;\n            }");
        on("a count cluster comes between them", 10, x -> {
            x.write(0, 1).is(2);
            x.write(8, 1).is(1);
            x.snapshot(7).is(0);
            x.word(0, 6).is(7);
            x.cluster(0, 7, 9, 7);
            x.cluster(0, 1, 2, 8);
        }).broken("int take()", "at(countTable, cluster / EIGHT) == 0",
            "at(countTable, (cluster + 7) / EIGHT) == 0");
        on("again when the list was free in the meantime", 10, x -> {
            x.snapshot(7).is(0);
            x.delete(7).is(0);
            x.write(0, 1).is(2);
            x.snapshot(8).is(0);
            x.word(0, 6).is(6);
            x.cluster(0, 6, 7, 8);
        }).broken("int addSnapshot(", "if (number == 0) {\n                file.put(",
            "if (number == 0 && blocks() == 0) {\n                file.put(");
    }

    private void snapshotTaken() {
        says("Refused: TAKEN when there is one of that name; MANY when there are 4; FULL.");
        on("TAKEN: the only one's name, 0 and the names furthest out", 10, x -> {
            x.snapshot(0).is(0);
            x.snapshot(0).is(TAKEN);
            x.snapshot(MIN).is(0);
            x.snapshot(MIN).is(TAKEN);
            x.snapshot(MAX).is(0);
            x.snapshot(MAX).is(TAKEN);
            x.snapshot(-1).is(0);
            x.snapshot(-1).is(TAKEN);
            x.word(0, 5).is(4);
        }).broken("int addSnapshot(", "if (snapshotNamed(name) >= 0) {",
            "if (snapshotNamed(name) >= 0 && name != 0) {")
            .broken("int snapshotNamed(", "== name", "== Math.abs(name)");
        on("TAKEN before MANY: the first and the last of four", 10, x -> {
            for (int name = 1; name <= 4; name++) {
                x.snapshot(name).is(0);
            }
            x.snapshot(1).is(TAKEN);
            x.snapshot(4).is(TAKEN);
        }).broken("int addSnapshot(", "if (snapshotNamed(name) >= 0) {",
            "if (number < MOST_SNAPSHOTS && snapshotNamed(name) >= 0) {");
        on("TAKEN before FULL", 64, x -> {
            x.fill(2);
            x.snapshot(1).is(0);
            x.used().is(64);
            x.snapshot(1).is(TAKEN);
        }).broken("int addSnapshot(", "if (snapshotNamed(name) >= 0) {",
            "if (file.room() > 0 && snapshotNamed(name) >= 0) {");
        on("not TAKEN: a name that was deleted", 10, x -> {
            x.snapshot(1).is(0);
            x.snapshot(2).is(0);
            x.delete(2).is(0);
            x.snapshot(2).is(0);
            x.delete(1).is(0);
            x.delete(2).is(0);
            x.snapshot(1).is(0);
        }).broken("void removeSnapshot(", "closeListGap(number);", "");
    }

    private void snapshotMany() {
        on("not MANY with three, MANY with four", 10, x -> {
            for (int name = 1; name <= 4; name++) {
                x.snapshot(name).is(0);
            }
            x.snapshot(5).is(MANY);
            x.word(0, 5).is(4);
        }).broken("", "MOST_SNAPSHOTS = 4", "MOST_SNAPSHOTS = 3")
            .broken("int addSnapshot(", "if (number == MOST_SNAPSHOTS) {",
                "if (number > MOST_SNAPSHOTS) {");
        on("not MANY when one of four is gone", 10, x -> {
            for (int name = 1; name <= 4; name++) {
                x.snapshot(name).is(0);
            }
            x.delete(4).is(0);
            x.snapshot(5).is(0);
            x.snapshot(4).is(MANY);
        }).broken("void removeSnapshot(", "file.put(HEADER, SNAPSHOTS, left);",
            "if (left == 0) { file.put(HEADER, SNAPSHOTS, left); }");
        on("MANY before FULL", 64, x -> {
            x.fill(5);
            for (int name = 1; name <= 4; name++) {
                x.snapshot(name).is(0);
            }
            x.used().is(64);
            x.snapshot(5).is(MANY);
        }).broken("int addSnapshot(", "if (number == MOST_SNAPSHOTS) {",
            "if (file.room() > 0 && number == MOST_SNAPSHOTS) {");
    }

    private void snapshotFull() {
        on("FULL: the list and the table, and room for none", 64, x -> {
            x.fill(0);
            x.snapshot(1).is(FULL);
        }).broken("int addSnapshot(", "file.room() < (number == 0 ? 2 : 1)", "file.room() < 0");
        on("FULL: the list and the table, and room for one", 64, x -> {
            x.fill(1);
            x.snapshot(1).is(FULL);
            x.word(0, 5).is(0);
            x.word(0, 6).is(0);
        }).broken("int addSnapshot(", "number == 0 ? 2 : 1", "number == 0 ? 1 : 1");
        on("the list and the table, and room for two", 64, x -> {
            x.fill(2);
            x.snapshot(1).is(0);
            x.used().is(64);
        }).broken("int addSnapshot(", "number == 0 ? 2 : 1", "number == 0 ? 3 : 1");
        on("a table, and room for one; FULL: a table, and no room", 64, x -> {
            x.fill(3);
            x.snapshot(1).is(0);
            x.used().is(63);
            x.snapshot(2).is(0);
            x.used().is(64);
            x.snapshot(3).is(FULL);
            x.word(0, 5).is(2);
        }).broken("int addSnapshot(", "number == 0 ? 2 : 1", "2")
            .broken("int addSnapshot(", "number == 0 ? 2 : 1", "number == 0 ? 2 : 0");
    }

    private void snapshotAnswers() {
        says("Otherwise answers 0.");
        on("with the list, without it, and with a count cluster", 10, x -> {
            x.snapshot(1).is(0);
            x.snapshot(2).is(0);
            x.snapshot(3).is(0);
            x.snapshot(4).is(0);
            x.used().is(10);
        }).broken("int addSnapshot(", "return 0;", "return number;");
    }

    private void revert() {
        says("The active table becomes like the snapshot's; the snapshot stays.");
        on("to an empty table: all its clusters come free", 10, x -> {
            x.snapshot(1).is(0);
            x.write(0, 1).is(2);
            x.write(79, 1).is(2);
            x.used().is(11);
            x.revert(1).is(0);
            x.cluster(0, 3);
            x.used().is(7);
            x.read(79).is(0);
        }).broken("void returnTo(", "file.copyCluster(file, table, activeTable());", "");
        on("its first and its last word", 64, x -> {
            x.write(0, 1).is(2);
            x.write(504, 2).is(2);
            x.snapshot(1).is(0);
            x.write(0, 3).is(2);
            x.write(504, 4).is(2);
            x.revert(1).is(0);
            x.cluster(0, 3, 16, 0, 0, 0, 0, 0, 0, 24);
            x.read(0).is(1);
            x.read(504).is(2);
        }).broken("void copyCluster(", "i < EIGHT", "i < LAST_OF_EIGHT")
            .broken("void copyCluster(", "int i = 0", "int i = 1");
        on("the snapshot stays, and can be come back to again", 10, x -> {
            x.write(0, 1).is(2);
            x.snapshot(1).is(0);
            x.write(0, 2).is(2);
            x.revert(1).is(0);
            x.word(0, 5).is(1);
            x.readOld(1, 0).is(1);
            x.write(0, 3).is(2);
            x.readOld(1, 0).is(1);
            x.revert(1).is(0);
            x.read(0).is(1);
        }).broken("void returnTo(", "countTable(table, 1);", "");
        on("the size stays, and the blocks behind the old one are absent", 8, x -> {
            x.snapshot(1).is(0);
            x.grow(9).is(0);
            x.write(71, 5).is(2);
            x.revert(1).is(0);
            x.size().is(9);
            x.read(71).is(0);
            x.write(71, 6).is(2);
        }).broken("void returnTo(", "tellFlags();",
            "tellFlags();\n            file.put(HEADER, SIZE, 8);");
    }

    private void revertAgain() {
        on("to what is so already: nothing changes", 10, x -> {
            x.write(0, 1).is(2);
            x.snapshot(1).is(0);
            x.revert(1).is(0);
            x.cluster(0, 2, 1, 1, 1, 1, 2, 2, 1, 1);
            x.cluster(0, 3, 16);
            x.cluster(0, 4, 20);
        }).broken("void returnTo(", "countTable(activeTable(), -1);", "");
        on("the first, a middle one and the last of four", 10, x -> {
            for (int name = 1; name <= 4; name++) {
                x.write(0, name);
                x.snapshot(name).is(0);
            }
            for (int name = 4; name >= 1; name--) {
                x.revert(name).is(0);
                x.read(0).is(name);
            }
        }).broken("public int revert(", "top().returnTo(number);",
            "top().returnTo(number % 3);");
        on("in a full file", 64, x -> {
            x.fill(2);
            x.snapshot(1).is(0);
            x.used().is(64);
            x.revert(1).is(0);
            x.used().is(64);
            x.read(0).is(1);
        }).broken("public int revert(", "if (number < 0) {",
            "if (number < 0 || top().file.room() == 0) {");
    }

    private void revertRefused() {
        says("Refused: BAD.");
        on("no snapshot, the name 0 and another", 10, x -> {
            x.revert(0).is(BAD);
            x.revert(1).is(BAD);
            x.revert(7001).is(BAD);
        }).broken("int snapshotNamed(", "i < snapshots", "i <= snapshots");
        on("no snapshot of that name, 0 for the empty places among them", 10, x -> {
            x.write(0, 1).is(2);
            x.snapshot(3).is(0);
            x.revert(0).is(BAD);
            x.revert(-3).is(BAD);
            x.revert(MIN + 3).is(BAD);
            x.revert(4).is(BAD);
            x.revert(3).is(0);
        }).broken("int snapshotNamed(", "i < snapshots", "i < MOST_SNAPSHOTS")
            .broken("int snapshotNamed(", "== name", "== (name & MOST_BLOCKS - 1)");
        on("a snapshot that is deleted", 10, x -> {
            x.snapshot(3).is(0);
            x.snapshot(4).is(0);
            x.delete(3).is(0);
            x.revert(3).is(BAD);
            x.revert(4).is(0);
            x.delete(4).is(0);
            x.revert(4).is(BAD);
        }).broken("void removeSnapshot(", "closeListGap(number);", "");
        says("Otherwise answers 0.");
        on("the first and the fourth", 10, x -> {
            for (int name = 1; name <= 4; name++) {
                x.snapshot(name).is(0);
            }
            x.revert(1).is(0);
            x.revert(4).is(0);
        }).broken("public int revert(", "return 0;", "return number;");
    }

    private void delete() {
        says("The snapshot is no more; those behind it move up.");
        on("the first of four: three move up", 10, x -> {
            fourSnapshots(x);
            x.delete(1).is(0);
            x.cluster(0, 4, 6, 2, 7, 3, 9, 4, 0, 0);
            x.word(0, 5).is(3);
            x.readOld(1, 0).is(NONE);
            x.readOld(4, 0).is(0);
        }).broken("private void closeListGap(", "i < end", "i < end - 2")
            .broken("private void closeListGap(", "file.put(list, end + 1, 0);", "");
        on("the second of four: two move up", 10, x -> {
            fourSnapshots(x);
            x.delete(2).is(0);
            x.cluster(0, 4, 5, 1, 7, 3, 9, 4, 0, 0);
            x.word(0, 5).is(3);
        }).broken("private void closeListGap(", "int i = 2 * number", "int i = 0");
        on("the fourth of four: none moves up", 10, x -> {
            fourSnapshots(x);
            x.delete(4).is(0);
            x.cluster(0, 4, 5, 1, 6, 2, 7, 3, 0, 0);
            x.cluster(0, 9);
            x.used().is(9);
        }).broken("private void closeListGap(", "file.put(list, end, 0);", "");
        on("what it alone led to is free, what others lead to stays", 10, x -> {
            x.write(0, 1).is(2);
            x.snapshot(1).is(0);
            x.write(8, 2).is(2);
            x.used().is(11);
            x.delete(1).is(0);
            x.cluster(0, 2, 1, 1, 1, 1, 0, 1, 0, 0);
            x.cluster(0, 4);
            x.cluster(0, 9, 21, 41);
            x.read(0).is(1);
        }).broken("void removeSnapshot(", "countTable(table, -1);", "");
        on("in a full file there is room again", 64, x -> {
            x.fill(2);
            x.snapshot(1).is(0);
            x.write(56, 1).is(FULL);
            x.delete(1).is(0);
            x.used().is(62);
            x.write(56, 1).is(1);
        }).broken("void removeSnapshot(", "file.addToCount(table, -1);", "");
    }

    private static void fourSnapshots(Calls x) {
        for (int name = 1; name <= 4; name++) {
            x.snapshot(name).is(0);
        }
        x.cluster(0, 4, 5, 1, 6, 2, 7, 3, 9, 4);
    }

    private void deleteLast() {
        says("With the last one the list is free, and word 6 of the header is 0.");
        on("one of one", 10, x -> {
            x.snapshot(5).is(0);
            x.used().is(6);
            x.delete(5).is(0);
            x.used().is(4);
            x.word(0, 5).is(0);
            x.word(0, 6).is(0);
            x.cluster(0, 4);
        }).broken("void removeSnapshot(", "file.addToCount(snapshotList(), -1);", "")
            .broken("void removeSnapshot(", "file.put(HEADER, SNAPSHOT_LIST, 0);", "");
        on("one of two: the list stays", 10, x -> {
            x.snapshot(5).is(0);
            x.snapshot(6).is(0);
            x.delete(5).is(0);
            x.used().is(6);
            x.word(0, 6).is(4);
            x.delete(6).is(0);
            x.used().is(4);
            x.word(0, 6).is(0);
        }).broken("void removeSnapshot(", "if (left == 0) {", "if (left <= 1) {");
    }

    private void deleteRefused() {
        says("Refused: BAD.");
        on("no snapshot, the name 0 and another", 10, x -> {
            x.delete(0).is(BAD);
            x.delete(1).is(BAD);
            x.delete(7001).is(BAD);
            x.word(0, 5).is(0);
        }).broken("int snapshotNamed(", "i < snapshots", "i <= snapshots");
        on("no snapshot of that name, 0 for the empty places among them", 10, x -> {
            x.snapshot(3).is(0);
            x.delete(0).is(BAD);
            x.delete(-3).is(BAD);
            x.delete(MIN + 3).is(BAD);
            x.delete(3).is(0);
            x.delete(3).is(BAD);
        }).broken("int snapshotNamed(", "i < snapshots", "i < MOST_SNAPSHOTS")
            .broken("int snapshotNamed(", "== name", "== (name & MOST_BLOCKS - 1)");
        says("Otherwise answers 0.");
        on("the fourth, the first and the last one", 10, x -> {
            for (int name = 1; name <= 4; name++) {
                x.snapshot(name).is(0);
            }
            x.delete(4).is(0);
            x.delete(1).is(0);
            x.delete(2).is(0);
            x.delete(3).is(0);
        }).broken("public int delete(", "return 0;", "return number;");
    }

    private void readOld() {
        says("The word at an address (by the size as it is now) as the snapshot's table shows it; "
            + "NONE when there is no snapshot of that name or no such address.");
        on("the first and the last address", 10, x -> {
            x.write(0, 5).is(2);
            x.write(79, 6).is(2);
            x.snapshot(1).is(0);
            x.write(0, 7).is(2);
            x.write(79, 8).is(2);
            x.readOld(1, 0).is(5);
            x.readOld(1, 79).is(6);
            x.readOld(1, 40).is(0);
        }).broken("public long readOld(", "top.snapshotTable(number)", "top.activeTable()");
        on("the first and the fourth snapshot", 10, x -> {
            for (int name = 1; name <= 4; name++) {
                x.write(0, name);
                x.snapshot(name).is(0);
            }
            x.write(0, 9).is(2);
            x.readOld(1, 0).is(1);
            x.readOld(2, 0).is(2);
            x.readOld(4, 0).is(4);
        }).broken("int snapshotTable(", "2 * number", "2 * (number % 3)");
        on("the words furthest out", 1, x -> {
            x.write(0, MIN).is(2);
            x.write(1, MAX).is(0);
            x.write(2, -1).is(0);
            x.snapshot(1).is(0);
            x.readOld(1, 0).is(MIN);
            x.readOld(1, 1).is(MAX);
            x.readOld(1, 2).is(-1);
        }).broken("public long readOld(", "return top.shown(top.snapshotTable(number), address);",
            "return top.shown(top.snapshotTable(number), address) & 4294967295L;");
        on("by the size as it is now: the last new address and the one behind", 1, x -> {
            x.write(7, 5).is(2);
            x.snapshot(1).is(0);
            x.readOld(1, 8).is(NONE);
            x.grow(9).is(0);
            x.readOld(1, 8).is(0);
            x.write(71, 6).is(2);
            x.readOld(1, 71).is(0);
            x.readOld(1, 72).is(NONE);
        }).broken("public long readOld(", "!top.hasAddress(address)",
            "address < 0 || address >= 8");
        on("ABSENT in it shows the image below, ZERO in it is 0", 2, x -> {
            x.write(0, 5).is(2);
            x.write(8, 6).is(1);
            x.overlay().is(2);
            x.discard(0).is(1);
            x.snapshot(1).is(0);
            x.write(0, 7).is(2);
            x.write(8, 8).is(1);
            x.readOld(1, 0).is(0);
            x.readOld(1, 8).is(6);
        }).broken("int shown(", "while (word == ABSENT && image.below != null) {",
            "while (word == ABSENT && image.below != null"
            + " && table == activeTable()) {")
            .broken("int shown(", "word == ABSENT && image.below", "word <= ZERO && image.below");
    }

    private void readOldNone() {
        on("NONE: no snapshot, the name 0 and another", 10, x -> {
            x.readOld(0, 0).is(NONE);
            x.readOld(1, 0).is(NONE);
            x.readOld(7001, 0).is(NONE);
        }).broken("int snapshotNamed(", "i < snapshots", "i <= snapshots");
        on("NONE: no snapshot of that name, 0 for the empty places among them", 10, x -> {
            x.write(0, 1).is(2);
            x.snapshot(3).is(0);
            x.readOld(0, 0).is(NONE);
            x.readOld(-3, 0).is(NONE);
            x.readOld(MIN + 3, 0).is(NONE);
            x.readOld(3, 0).is(1);
        }).broken("int snapshotNamed(", "i < snapshots", "i < MOST_SNAPSHOTS")
            .broken("int snapshotNamed(", "== name", "== (name & MOST_BLOCKS - 1)");
        on("NONE: beside the first and the last address", 10, x -> {
            x.snapshot(3).is(0);
            x.readOld(3, -1).is(NONE);
            x.readOld(3, 0).is(0);
            x.readOld(3, 79).is(0);
            x.readOld(3, 80).is(NONE);
        }).broken("boolean hasAddress(", "address >= 0", "address >= -1")
            .broken("boolean hasAddress(", "address < EIGHT", "address <= EIGHT");
        on("NONE: the numbers furthest out, and those that wrap around", 10, x -> {
            x.snapshot(3).is(0);
            x.readOld(3, MIN).is(NONE);
            x.readOld(3, MAX).is(NONE);
            x.readOld(3, 1 << 29).is(NONE);
            x.readOld(3, -8).is(NONE);
        }).broken("public long readOld(", "number < 0 || !top.hasAddress(address)", "number < 0");
        on("NONE: neither the name nor the address", 10, x -> x.readOld(3, 80).is(NONE))
            .broken("public long readOld(", "number < 0 || !top.hasAddress(address)",
                "number < 0 ^ !top.hasAddress(address)");
    }
}
