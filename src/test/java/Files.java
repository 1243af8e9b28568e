import java.util.ArrayList;
import java.util.List;

/** Right files of many layouts, for the stage. */
final class Files {
    private Files() {
    }

    /** A file that a run could have made, or one with its clusters put elsewhere. */
    static int[] any(Dice dice) {
        Disk disk = built(dice);
        for (int tries = 0; tries < 20 && dice.below(4) != 0; tries++) {
            Disk other = disk.copy();
            if (scatter(dice, other)) {
                return other.words();
            }
        }
        return disk.words();
    }

    private static Disk built(Dice dice) {
        Model model = new Model(dice.of(1, 7, 9, 20, 50, 64));
        int spread = dice.of(2, 10, 64);
        int calls = dice.of(3, 10, 30, 60);
        for (int i = 0; i < calls; i++) {
            int block = dice.below(Math.min(spread, model.top.size));
            switch (dice.below(9)) {
                case 0: model.discard(block); break;
                case 1: model.snapshot(dice.below(6) - 2); break;
                case 2: model.revert(dice.below(6) - 2); break;
                case 3: model.delete(dice.below(6) - 2); break;
                case 4: model.grow(model.top.size + dice.below(3)); break;
                default: model.write(8 * block + dice.below(8), dice.bits()); break;
            }
        }
        return model.top;
    }

    /** Gives each cluster another number; false when the count clusters found no place. */
    private static boolean scatter(Dice dice, Disk disk) {
        List<Integer> free = new ArrayList<>();
        int reach = dice.of(16, 40, 63, 63);
        for (int c = 1; c <= reach; c++) {
            free.add(dice.below(free.size() + 1), c);
        }
        int needed = disk.used() - disk.countClusters.size() - 1;
        if (free.size() < needed) {
            return false;
        }
        disk.countClusters.clear();
        disk.countTable = free.remove(0);
        disk.list = disk.list == 0 ? 0 : free.remove(0);
        List<Object> seen = new ArrayList<>();
        for (Disk.Table table : disk.tables()) {
            table.cluster = free.remove(0);
            for (Disk.Leaf leaf : table.leaves) {
                if (leaf != null && !seen.contains(leaf)) {
                    seen.add(leaf);
                    leaf.cluster = free.remove(0);
                }
                for (Disk.Block block : leaf == null ? new Disk.Block[0] : leaf.blocks) {
                    if (block != null && block != Disk.ZERO && !seen.contains(block)) {
                        seen.add(block);
                        block.cluster = free.remove(0);
                    }
                }
            }
        }
        return placeCountClusters(dice, disk, free);
    }

    private static boolean placeCountClusters(Dice dice, Disk disk, List<Integer> free) {
        boolean more = true;
        while (more) {
            more = false;
            int[] counts = disk.counts();
            for (int k = 0; k < 8 && !more; k++) {
                boolean wanted = dice.below(12) == 0;
                for (int j = 0; j < 8; j++) {
                    wanted |= counts[8 * k + j] > 0;
                }
                if (wanted && !disk.countClusters.containsKey(k)) {
                    if (free.isEmpty()) {
                        return false;
                    }
                    disk.countClusters.put(k, free.remove(0));
                    more = true;
                }
            }
        }
        return true;
    }
}
