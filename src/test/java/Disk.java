import java.util.ArrayList;
import java.util.IdentityHashMap;
import java.util.List;
import java.util.Map;
import java.util.TreeMap;

/**
 * One image as objects that lead to one another, for the tests: counts and
 * flags are never kept, but found by walking from the tables each time.
 */
final class Disk {
    static final class Block {
        int cluster;
        int[] words = new int[8];
    }

    static final class Leaf {
        int cluster;
        // null is ABSENT.
        Block[] blocks = new Block[8];
    }

    static final class Table {
        int cluster;
        Leaf[] leaves = new Leaf[8];
    }

    static final class Snap {
        int name;
        Table table;
    }

    static final Block ZERO = new Block();

    int size;
    // How many clusters there are; more than 64 to see what endless room would give.
    int clusters = 64;
    int countTable = 1;
    Map<Integer, Integer> countClusters = new TreeMap<>();
    Table active = new Table();
    int list;
    List<Snap> snaps = new ArrayList<>();
    Disk below;

    static Disk fresh(int size, Disk below) {
        Disk disk = new Disk();
        disk.size = size;
        disk.countClusters.put(0, 2);
        disk.active.cluster = 3;
        disk.below = below;
        return disk;
    }

    List<Table> tables() {
        List<Table> all = new ArrayList<>();
        all.add(active);
        for (Snap snap : snaps) {
            all.add(snap.table);
        }
        return all;
    }

    int[] counts() {
        int[] counts = new int[clusters];
        counts[0]++;
        counts[countTable]++;
        for (int cluster : countClusters.values()) {
            counts[cluster]++;
        }
        if (list != 0) {
            counts[list]++;
        }
        for (Table table : tables()) {
            counts[table.cluster]++;
            for (Leaf leaf : table.leaves) {
                if (leaf != null) {
                    counts[leaf.cluster]++;
                    for (Block block : leaf.blocks) {
                        if (block != null && block != ZERO) {
                            counts[block.cluster]++;
                        }
                    }
                }
            }
        }
        return counts;
    }

    int used() {
        int used = 0;
        for (int count : counts()) {
            used += count > 0 ? 1 : 0;
        }
        return used;
    }

    private static int least(int[] counts) {
        for (int c = 0; c < counts.length; c++) {
            if (counts[c] == 0) {
                return c;
            }
        }
        return -1;
    }

    /** The number of a cluster; what is to stand in it is linked by the caller at once. */
    int take() {
        int c = least(counts());
        if (!countClusters.containsKey(c / 8)) {
            countClusters.put(c / 8, c);
            c = least(counts());
        }
        return c;
    }

    /** Takes n clusters one after the other, on a copy of what there is. */
    boolean hasRoom(int n) {
        int[] counts = counts();
        Map<Integer, Integer> keepers = new TreeMap<>(countClusters);
        for (int taken = 0; taken < n; taken++) {
            int c = least(counts);
            if (c >= 0 && !keepers.containsKey(c / 8)) {
                keepers.put(c / 8, c);
                counts[c] = 1;
                c = least(counts);
            }
            if (c < 0) {
                return false;
            }
            counts[c] = 1;
        }
        return true;
    }

    /** The word as a table shows it. */
    int shown(Table table, int address) {
        Leaf leaf = table.leaves[address / 64];
        Block block = leaf == null ? null : leaf.blocks[address / 8 % 8];
        if (block == ZERO) {
            return 0;
        }
        if (block != null) {
            return block.words[address % 8];
        }
        return below == null || address >= 8 * below.size ? belowThat(address)
            : below.shown(below.active, address);
    }

    private int belowThat(int address) {
        Disk disk = below;
        while (disk != null && address >= 8 * disk.size) {
            disk = disk.below;
        }
        return disk == null ? 0 : disk.shown(disk.active, address);
    }

    Disk copy() {
        Disk copy = new Disk();
        copy.size = size;
        copy.clusters = clusters;
        copy.countTable = countTable;
        copy.countClusters.putAll(countClusters);
        copy.list = list;
        copy.below = below;
        Map<Object, Object> made = new IdentityHashMap<>();
        made.put(ZERO, ZERO);
        copy.active = copyOf(active, made);
        for (Snap snap : snaps) {
            Snap other = new Snap();
            other.name = snap.name;
            other.table = copyOf(snap.table, made);
            copy.snaps.add(other);
        }
        return copy;
    }

    private static Table copyOf(Table table, Map<Object, Object> made) {
        Table copy = new Table();
        copy.cluster = table.cluster;
        for (int i = 0; i < 8; i++) {
            Leaf leaf = table.leaves[i];
            if (leaf != null && !made.containsKey(leaf)) {
                Leaf other = new Leaf();
                other.cluster = leaf.cluster;
                made.put(leaf, other);
                for (int j = 0; j < 8; j++) {
                    other.blocks[j] = copyOf(leaf.blocks[j], made);
                }
            }
            copy.leaves[i] = leaf == null ? null : (Leaf) made.get(leaf);
        }
        return copy;
    }

    private static Block copyOf(Block block, Map<Object, Object> made) {
        if (block == null) {
            return null;
        }
        if (!made.containsKey(block)) {
            Block other = new Block();
            other.cluster = block.cluster;
            other.words = block.words.clone();
            made.put(block, other);
        }
        return (Block) made.get(block);
    }

    /** The 512 words of the file. */
    int[] words() {
        int[] words = new int[512];
        int[] counts = counts();
        int[] header = {7001, 1, size, active.cluster, countTable, snaps.size(), list, 0};
        System.arraycopy(header, 0, words, 0, 8);
        for (Map.Entry<Integer, Integer> keeper : countClusters.entrySet()) {
            words[8 * countTable + keeper.getKey()] = keeper.getValue();
            for (int j = 0; j < 8; j++) {
                words[8 * keeper.getValue() + j] = counts[8 * keeper.getKey() + j];
            }
        }
        for (int j = 0; j < snaps.size(); j++) {
            words[8 * list + 2 * j] = snaps.get(j).table.cluster;
            words[8 * list + 2 * j + 1] = snaps.get(j).name;
        }
        for (Table table : tables()) {
            putTable(words, counts, table);
        }
        return words;
    }

    private static void putTable(int[] words, int[] counts, Table table) {
        for (int i = 0; i < 8; i++) {
            Leaf leaf = table.leaves[i];
            if (leaf == null) {
                continue;
            }
            words[8 * table.cluster + i] = lead(leaf.cluster, counts);
            for (int j = 0; j < 8; j++) {
                Block block = leaf.blocks[j];
                int at = 8 * leaf.cluster + j;
                if (block == ZERO) {
                    words[at] = 2;
                } else if (block != null) {
                    words[at] = lead(block.cluster, counts);
                    System.arraycopy(block.words, 0, words, 8 * block.cluster, 8);
                }
            }
        }
    }

    private static int lead(int cluster, int[] counts) {
        return 4 * cluster + (counts[cluster] == 1 ? 1 : 0);
    }

    /** The image of a right file. */
    static Disk of(int[] words) {
        Disk disk = new Disk();
        disk.size = words[2];
        disk.countTable = words[4];
        disk.list = words[6];
        for (int k = 0; k < 8; k++) {
            if (words[8 * disk.countTable + k] != 0) {
                disk.countClusters.put(k, words[8 * disk.countTable + k]);
            }
        }
        Map<Integer, Leaf> leaves = new TreeMap<>();
        Map<Integer, Block> blocks = new TreeMap<>();
        disk.active = tableOf(words, words[3], leaves, blocks);
        for (int j = 0; j < words[5]; j++) {
            Snap snap = new Snap();
            snap.name = words[8 * disk.list + 2 * j + 1];
            snap.table = tableOf(words, words[8 * disk.list + 2 * j], leaves, blocks);
            disk.snaps.add(snap);
        }
        return disk;
    }

    private static Table tableOf(int[] words, int cluster, Map<Integer, Leaf> leaves,
            Map<Integer, Block> blocks) {
        Table table = new Table();
        table.cluster = cluster;
        for (int i = 0; i < 8; i++) {
            int c = words[8 * cluster + i] / 4;
            if (c != 0) {
                table.leaves[i] = leaves.computeIfAbsent(c, x -> leafOf(words, x, blocks));
            }
        }
        return table;
    }

    private static Leaf leafOf(int[] words, int cluster, Map<Integer, Block> blocks) {
        Leaf leaf = new Leaf();
        leaf.cluster = cluster;
        for (int j = 0; j < 8; j++) {
            int word = words[8 * cluster + j];
            if (word == 2) {
                leaf.blocks[j] = ZERO;
            } else if (word != 0) {
                leaf.blocks[j] = blocks.computeIfAbsent(word / 4, x -> blockOf(words, x));
            }
        }
        return leaf;
    }

    private static Block blockOf(int[] words, int cluster) {
        Block block = new Block();
        block.cluster = cluster;
        System.arraycopy(words, 8 * cluster, block.words, 0, 8);
        return block;
    }
}
