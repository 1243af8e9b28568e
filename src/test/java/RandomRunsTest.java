import java.util.List;

/**
 * Runs of mixed calls, on new objects and on files that were staged, against the
 * model: each answer, what can be read in between, and all words of all files.
 */
public final class RandomRunsTest {
    private static final int RUNS = 400;
    private static final int[] NAMES = {0, 1, 2, 5, -7, Integer.MIN_VALUE};
    private static final int STAGE_CALLS = 128;

    private final Checks checks = new Checks("RandomRunsTest");
    // How often each answer came: answers -4 .. 4 of each call at 4 + answer.
    private final int[][] answers = new int[9][9];
    // Commits that just found room, and that just found none.
    private int justRoom;
    private int justNoRoom;

    public static void main(String[] args) {
        RandomRunsTest test = new RandomRunsTest();
        for (int seed = 1; seed <= RUNS; seed++) {
            test.run(seed);
        }
        for (int seed = 1; seed <= 1500; seed++) {
            test.commitNearTheEnd(seed);
        }
        test.checkThatAllWasMet();
        test.checks.end();
    }

    private void run(int seed) {
        Dice dice = new Dice(seed);
        int size = dice.of(-3, 1, 5, 8, 9, 16, 17, 20, 33, 48, 63, 64, 64, 64, 100);
        Calls image = new Calls(checks, size);
        Model model = new Model(size);
        if (seed % 3 == 0) {
            loadSome(dice, image, model);
        }
        // Some runs fill the file, some make many layers, some take back much.
        int[] weights = {dice.of(6, 12, 30), dice.of(2, 6, 14), dice.of(1, 2, 5), dice.of(0, 1, 3),
            dice.of(0, 1, 3), dice.of(0, 1, 2), dice.of(0, 1, 2), 1, dice.of(0, 0, 1), 1};
        int spread = dice.of(3, 12, 64);
        // All words of long runs ask for many objects: they are compared at some calls alone.
        boolean compared = seed % 5 < 2;
        int looks = compared ? 0 : dice.of(0, 0, 1, 3);
        int kept = compared ? 250 : dice.of(60, 120);
        while (image.left() > kept && checks.wrong() == 0) {
            oneCall(dice, weights, spread, image, model);
            for (int i = 0; i < looks; i++) {
                look(dice, image, model);
            }
            if (compared || dice.below(30) == 0) {
                compare("seed " + seed, image, model);
            }
        }
        compare("seed " + seed, image, model);
    }

    private void loadSome(Dice dice, Calls image, Model model) {
        int[] words = Files.any(dice);
        image.stageAll(words);
        System.arraycopy(words, 0, model.staged, 0, 512);
        image.load().is(0);
        checks.due("load() in the model", model.load(), 0);
    }

    private static int pick(Dice dice, int[] weights) {
        int sum = 0;
        for (int weight : weights) {
            sum += weight;
        }
        int at = dice.below(sum);
        int call = 0;
        while (at >= weights[call]) {
            at -= weights[call];
            call++;
        }
        return call;
    }

    private void oneCall(Dice dice, int[] weights, int spread, Calls image, Model model) {
        int block = dice.below(12) == 0 ? dice.of(-1, 64, model.top.size, Integer.MIN_VALUE / 8)
            : dice.below(Math.min(spread, model.top.size + 1));
        int address = 8 * block + dice.below(8);
        int value = dice.below(3) == 0 ? 0 : dice.bits();
        int name = dice.of(NAMES);
        switch (pick(dice, weights)) {
            case 0: due(0, image.write(address, value), model.write(address, value)); break;
            case 1: due(1, image.discard(block), model.discard(block)); break;
            case 2: due(2, image.snapshot(name), model.snapshot(name)); break;
            case 3: due(3, image.revert(name), model.revert(name)); break;
            case 4: due(4, image.delete(name), model.delete(name)); break;
            case 5: due(5, image.overlay(), model.overlay()); break;
            case 6: due(6, image.commit(), model.commit()); break;
            case 7:
                int size = dice.below(8) == 0 ? dice.of(0, -1, 65, 64) : model.top.size + dice.below(4);
                due(7, image.grow(size), model.grow(size));
                break;
            case 8: due(8, image.load(), model.load()); break;
            default: restage(dice, image, model); break;
        }
    }

    /** Stages what the top file is now, mostly so that a later load takes it in. */
    private void restage(Dice dice, Calls image, Model model) {
        if (image.left() < 2 * STAGE_CALLS) {
            return;
        }
        int[] words = model.top.words();
        if (dice.below(3) == 0) {
            words[dice.below(512)] ^= 1 << dice.below(8);
        }
        image.stageAll(words);
        System.arraycopy(words, 0, model.staged, 0, 512);
        if (dice.below(2) == 0) {
            due(8, image.load(), model.load());
        }
    }

    private void due(int call, Calls.Answer answer, int want) {
        answer.is(want);
        answers[call][Math.max(0, Math.min(8, want + 4))]++;
    }

    /** One call that changes nothing. */
    private void look(Dice dice, Calls image, Model model) {
        int address = dice.below(8 * model.top.size + 9) - 4;
        int name = dice.of(NAMES);
        List<Disk> chain = model.chain();
        switch (dice.below(8)) {
            case 0: image.used().is(model.top.used()); break;
            case 1: image.size().is(model.top.size); break;
            case 2: image.images().is(chain.size()); break;
            case 3: image.word(chain.size(), 0).is(0); break;
            case 4:
                int number = dice.below(chain.size());
                int p = dice.below(512);
                image.word(number, p).is(chain.get(number).words()[p]);
                break;
            case 5: image.read(address).is(model.read(address)); break;
            default: image.readOld(name, address).is(model.readOld(name, address)); break;
        }
    }

    private void compare(String what, Calls image, Model model) {
        List<Disk> chain = model.chain();
        for (int i = 0; i < chain.size(); i++) {
            checks.same(what + ", file " + i, image.file(i), chain.get(i).words());
        }
    }

    /** Fills a file to some point, changes blocks above it, and puts them into it. */
    private void commitNearTheEnd(int seed) {
        Dice dice = new Dice(seed);
        Calls image = new Calls(checks, 64);
        Model model = new Model(64);
        if (dice.below(3) == 0) {
            image.overlay().is(model.overlay());
        }
        int left = dice.of(2, 4, 6, 10, 14, 20, 30, 45);
        for (int i = 0; i < 200 && model.top.hasRoom(left + 1); i++) {
            int address = dice.below(512);
            if (dice.below(20) == 0) {
                image.snapshot(i).is(model.snapshot(i));
            } else if (dice.below(12) == 0) {
                image.discard(address / 8).is(model.discard(address / 8));
            } else {
                image.write(address, i).is(model.write(address, i));
            }
        }
        image.overlay().is(model.overlay());
        int goal = left + dice.below(3) - 1;
        for (int i = 0; i < 200 && model.commitTakings() < goal; i++) {
            int address = dice.below(512);
            if (dice.below(3) == 0) {
                image.discard(address / 8).is(model.discard(address / 8));
            } else {
                image.write(address, -i).is(model.write(address, -i));
            }
        }
        int takings = model.commitTakings();
        boolean room = model.top.below.hasRoom(takings);
        justRoom += room && !model.top.below.hasRoom(takings + 1) ? 1 : 0;
        justNoRoom += !room && model.top.below.hasRoom(takings - 1) ? 1 : 0;
        image.commit().is(model.commit());
        compare("seed " + seed + ", commit", image, model);
    }

    private void checkThatAllWasMet() {
        checks.hold("some commits just find room", justRoom > 50);
        checks.hold("some commits just find none", justNoRoom > 50);
        met("write", 0, -2, -1, 0, 1, 2);
        met("discard", 1, -2, -1, 0, 1);
        met("snapshot", 2, -4, -3, -2, 0);
        met("revert", 3, -1, 0);
        met("delete", 4, -1, 0);
        met("overlay", 5, -3, 2, 3);
        met("commit", 6, -4, -2, -1, 0, 1, 2, 3);
        met("grow", 7, -1, 0);
        met("load", 8, 0, 1, 2, 4);
    }

    private void met(String name, int call, int... due) {
        for (int answer : due) {
            checks.hold(name + " answers " + answer + " in some run", answers[call][answer + 4] > 0);
        }
    }
}
