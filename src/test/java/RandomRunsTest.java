import java.util.List;

/**
 * Long runs of mixed calls, on new objects and on files that were staged,
 * against the model: each answer, and each word of each file after each call.
 */
public final class RandomRunsTest {
    private static final int CALLS = 512;
    private static final int[] NAMES = {0, 1, 2, 5, -7, Integer.MIN_VALUE};

    private final Checks checks = new Checks("RandomRunsTest");
    // How often each answer came: answers -4 .. 4 of each call at 4 + answer.
    private final int[][] answers = new int[12][9];
    // Commits that just found room, and that just found none.
    private int justRoom;
    private int justNoRoom;

    public static void main(String[] args) {
        RandomRunsTest test = new RandomRunsTest();
        for (int seed = 1; seed <= 160; seed++) {
            test.run(seed);
        }
        for (int seed = 1; seed <= 1500; seed++) {
            test.commitNearTheEnd(seed);
        }
        test.checkThatAllWasMet();
        test.checks.end();
    }

    private void run(int seed) {
        Dice dice = new Dice(seed);
        int size = dice.of(-3, 1, 5, 8, 9, 16, 17, 20, 33, 48, 63, 64, 64, 64, 100);
        LayeredImage image = new LayeredImage(size);
        Model model = new Model(size);
        if (seed % 3 == 0) {
            loadSome(dice, image, model);
        }
        // Some runs fill the file, some make many layers, some take back much.
        int[] weights = {dice.of(6, 12, 30), dice.of(2, 6, 14), dice.of(1, 2, 5), dice.of(0, 1, 3),
            dice.of(0, 1, 3), dice.of(0, 1, 2), dice.of(0, 1, 2), 1, dice.of(0, 0, 1), 1};
        int spread = dice.of(3, 12, 64);
        for (int call = 0; call < CALLS && checks.wrong() == 0; call++) {
            String what = "seed " + seed + ", call " + call + ": "
                + oneCall(dice, weights, spread, image, model);
            compare(what, dice, image, model);
        }
    }

    private void loadSome(Dice dice, LayeredImage image, Model model) {
        int[] words = Files.any(dice);
        Files.stage(image, words);
        System.arraycopy(words, 0, model.staged, 0, 512);
        checks.due("load() of a right file", image.load(), 0);
        checks.due("load() in the model", model.load(), 0);
    }

    private static int pick(Dice dice, int[] weights) {
        int sum = 0;
        for (int weight : weights) {
            sum += weight;
        }
        int at = dice.below(sum);
        int call = 0;
        while (at >= weights[call]) {
            at -= weights[call];
            call++;
        }
        return call;
    }

    private String oneCall(Dice dice, int[] weights, int spread, LayeredImage image, Model model) {
        int block = dice.below(12) == 0 ? dice.of(-1, 64, model.top.size, Integer.MIN_VALUE / 8)
            : dice.below(Math.min(spread, model.top.size + 1));
        int address = 8 * block + dice.below(8);
        int value = dice.below(3) == 0 ? 0 : dice.bits();
        int name = dice.of(NAMES);
        switch (pick(dice, weights)) {
            case 0: return told(0, "write " + address, image.write(address, value), model.write(address, value));
            case 1: return told(1, "discard " + block, image.discard(block), model.discard(block));
            case 2: return told(2, "snapshot " + name, image.snapshot(name), model.snapshot(name));
            case 3: return told(3, "revert " + name, image.revert(name), model.revert(name));
            case 4: return told(4, "delete " + name, image.delete(name), model.delete(name));
            case 5: return told(5, "overlay", image.overlay(), model.overlay());
            case 6: return told(6, "commit", image.commit(), model.commit());
            case 7:
                int size = dice.below(8) == 0 ? dice.of(0, -1, 65, 64) : model.top.size + dice.below(4);
                return told(7, "grow " + size, image.grow(size), model.grow(size));
            case 8: return told(8, "load", image.load(), model.load());
            default: return told(9, "stage", restage(dice, image, model), 1);
        }
    }

    /** Stages what the top file is now, mostly so that a later load takes it in. */
    private int restage(Dice dice, LayeredImage image, Model model) {
        int[] words = model.top.words();
        if (dice.below(3) == 0) {
            words[dice.below(512)] ^= 1 << dice.below(8);
        }
        boolean all = true;
        for (int p = 0; p < 128; p++) {
            int q = 4 * p;
            all &= image.stage(p, words[q], words[q + 1], words[q + 2], words[q + 3]);
            all &= model.stage(p, words[q], words[q + 1], words[q + 2], words[q + 3]);
        }
        return all ? 1 : 0;
    }

    private String told(int call, String name, int got, int want) {
        checks.due(name, got, want);
        answers[call][Math.max(0, Math.min(8, want + 4))]++;
        return name;
    }

    private void compare(String what, Dice dice, LayeredImage image, Model model) {
        List<Disk> chain = model.chain();
        checks.due(what + "; images()", image.images(), chain.size());
        checks.due(what + "; size()", image.size(), model.top.size);
        checks.due(what + "; used()", image.used(), model.top.used());
        for (int i = 0; i < chain.size(); i++) {
            int[] words = chain.get(i).words();
            for (int p = 0; p < 512; p++) {
                checks.due(what + "; word(" + i + ", " + p + ")", image.word(i, p), words[p]);
            }
        }
        checks.due(what + "; word of no image", image.word(chain.size(), 0), 0);
        for (int i = 0; i < 6; i++) {
            int address = dice.below(8 * model.top.size + 9) - 4;
            int name = dice.of(NAMES);
            checks.due(what + "; read(" + address + ")", image.read(address), model.read(address));
            checks.due(what + "; readOld(" + name + ", " + address + ")",
                image.readOld(name, address), model.readOld(name, address));
        }
    }

    /** Fills a file to some point, changes blocks above it, and puts them into it. */
    private void commitNearTheEnd(int seed) {
        Dice dice = new Dice(seed);
        LayeredImage image = new LayeredImage(64);
        Model model = new Model(64);
        if (dice.below(3) == 0) {
            due("overlay", image.overlay(), model.overlay());
        }
        int left = dice.of(2, 4, 6, 10, 14, 20, 30, 45);
        for (int i = 0; i < 200 && model.top.hasRoom(left + 1); i++) {
            int address = dice.below(512);
            if (dice.below(20) == 0) {
                due("snapshot", image.snapshot(i), model.snapshot(i));
            } else if (dice.below(12) == 0) {
                due("discard", image.discard(address / 8), model.discard(address / 8));
            } else {
                due("write", image.write(address, i), model.write(address, i));
            }
        }
        due("overlay", image.overlay(), model.overlay());
        int goal = left + dice.below(3) - 1;
        for (int i = 0; i < 200 && model.commitTakings() < goal; i++) {
            int address = dice.below(512);
            if (dice.below(3) == 0) {
                due("discard", image.discard(address / 8), model.discard(address / 8));
            } else {
                due("write", image.write(address, -i), model.write(address, -i));
            }
        }
        int takings = model.commitTakings();
        boolean room = model.top.below.hasRoom(takings);
        justRoom += room && !model.top.below.hasRoom(takings + 1) ? 1 : 0;
        justNoRoom += !room && model.top.below.hasRoom(takings - 1) ? 1 : 0;
        due("commit", image.commit(), model.commit());
        compare("seed " + seed + ", commit", dice, image, model);
    }

    private void due(String name, int got, int want) {
        checks.due(name, got, want);
    }

    private void checkThatAllWasMet() {
        checks.hold("some commits just find room", justRoom > 50);
        checks.hold("some commits just find none", justNoRoom > 50);
        met("write", 0, -2, -1, 0, 1, 2);
        met("discard", 1, -2, -1, 0, 1);
        met("snapshot", 2, -4, -3, -2, 0);
        met("revert", 3, -1, 0);
        met("delete", 4, -1, 0);
        met("overlay", 5, -3, 2, 3);
        met("commit", 6, -4, -2, -1, 0, 1, 2, 3);
        met("grow", 7, -1, 0);
        met("load", 8, 0, 1, 2, 4);
    }

    private void met(String name, int call, int... due) {
        for (int answer : due) {
            checks.hold(name + " answers " + answer + " in some run", answers[call][answer + 4] > 0);
        }
    }
}
