import java.util.ArrayList;
import java.util.List;

/** The document's calls over Disk, written for plainness: what the program is held against. */
final class Model {
    private static final int BAD = -1;
    private static final int FULL = -2;
    private static final int MANY = -3;
    private static final int TAKEN = -4;
    private static final long NONE = 1L << 32;

    Disk top;
    final int[] staged = new int[512];

    Model(int size) {
        top = Disk.fresh(size < 1 ? 1 : size > 64 ? 64 : size, null);
    }

    int write(int address, int value) {
        if (address < 0 || address >= 8 * top.size) {
            return BAD;
        }
        int takings = writeTakings(top, address / 8);
        if (!top.hasRoom(takings)) {
            return FULL;
        }
        ownBlock(top, address / 8).words[address % 8] = value;
        return takings;
    }

    int read(int address) {
        return address < 0 || address >= 8 * top.size ? 0 : top.shown(top.active, address);
    }

    int discard(int block) {
        if (block < 0 || block >= top.size) {
            return BAD;
        }
        int takings = discardTakings(top, block);
        if (!top.hasRoom(takings)) {
            return FULL;
        }
        return discardIn(top, block);
    }

    int snapshot(int name) {
        if (named(name) != null) {
            return TAKEN;
        }
        if (top.snaps.size() == 4) {
            return MANY;
        }
        if (!top.hasRoom(top.snaps.isEmpty() ? 2 : 1)) {
            return FULL;
        }
        if (top.snaps.isEmpty()) {
            top.list = top.take();
        }
        Disk.Snap snap = new Disk.Snap();
        snap.name = name;
        snap.table = new Disk.Table();
        snap.table.cluster = top.take();
        snap.table.leaves = top.active.leaves.clone();
        top.snaps.add(snap);
        return 0;
    }

    int revert(int name) {
        Disk.Snap snap = named(name);
        if (snap == null) {
            return BAD;
        }
        top.active.leaves = snap.table.leaves.clone();
        return 0;
    }

    int delete(int name) {
        Disk.Snap snap = named(name);
        if (snap == null) {
            return BAD;
        }
        top.snaps.remove(snap);
        if (top.snaps.isEmpty()) {
            top.list = 0;
        }
        return 0;
    }

    long readOld(int name, int address) {
        Disk.Snap snap = named(name);
        return snap == null || address < 0 || address >= 8 * top.size ? NONE
            : top.shown(snap.table, address);
    }

    int overlay() {
        if (images() == 3) {
            return MANY;
        }
        top = Disk.fresh(top.size, top);
        return images();
    }

    int commit() {
        if (top.below == null) {
            return BAD;
        }
        if (!top.snaps.isEmpty()) {
            return TAKEN;
        }
        if (!top.below.hasRoom(commitTakings())) {
            return FULL;
        }
        int blocks = putInto(top.below)[1];
        top = top.below;
        return blocks;
    }

    /** The same on a copy with endless room tells how many clusters are taken. */
    int commitTakings() {
        Disk trial = top.below.copy();
        trial.clusters = 4096;
        return putInto(trial)[0];
    }

    /** Puts the top image into another; answers the clusters taken and the blocks put. */
    private int[] putInto(Disk lower) {
        int takings = 0;
        int blocks = 0;
        lower.size = top.size;
        for (int b = 0; b < top.size; b++) {
            Disk.Block block = blockIn(top, b);
            if (block == Disk.ZERO) {
                takings += discardIn(lower, b);
                blocks++;
            } else if (block != null) {
                takings += writeTakings(lower, b);
                ownBlock(lower, b).words = block.words.clone();
                blocks++;
            }
        }
        return new int[] {takings, blocks};
    }

    int grow(int size) {
        if (size <= top.size || size > 64) {
            return BAD;
        }
        top.size = size;
        return 0;
    }

    int images() {
        return chain().size();
    }

    List<Disk> chain() {
        List<Disk> chain = new ArrayList<>();
        for (Disk disk = top; disk != null; disk = disk.below) {
            chain.add(disk);
        }
        return chain;
    }

    int load() {
        int wrong = Judge.firstWrong(staged);
        if (wrong == 0) {
            top = Disk.of(staged);
        }
        return wrong;
    }

    private Disk.Snap named(int name) {
        for (Disk.Snap snap : top.snaps) {
            if (snap.name == name) {
                return snap;
            }
        }
        return null;
    }

    private static Disk.Block blockIn(Disk disk, int block) {
        Disk.Leaf leaf = disk.active.leaves[block / 8];
        return leaf == null ? null : leaf.blocks[block % 8];
    }

    private static boolean needsLeaf(Disk disk, int block) {
        Disk.Leaf leaf = disk.active.leaves[block / 8];
        return leaf == null || disk.counts()[leaf.cluster] > 1;
    }

    private static boolean needsCluster(Disk disk, int block) {
        Disk.Block there = blockIn(disk, block);
        return there == null || there == Disk.ZERO || disk.counts()[there.cluster] > 1;
    }

    private static int writeTakings(Disk disk, int block) {
        return (needsLeaf(disk, block) ? 1 : 0) + (needsCluster(disk, block) ? 1 : 0);
    }

    private static int discardTakings(Disk disk, int block) {
        Disk.Block there = blockIn(disk, block);
        boolean nothing = there == Disk.ZERO || there == null && disk.below == null;
        return !nothing && needsLeaf(disk, block) ? 1 : 0;
    }

    private static int discardIn(Disk disk, int block) {
        Disk.Block there = blockIn(disk, block);
        if (there == Disk.ZERO || there == null && disk.below == null) {
            return 0;
        }
        int takings = discardTakings(disk, block);
        ownLeaf(disk, block).blocks[block % 8] = Disk.ZERO;
        return takings;
    }

    private static Disk.Leaf ownLeaf(Disk disk, int block) {
        Disk.Leaf old = disk.active.leaves[block / 8];
        if (needsLeaf(disk, block)) {
            Disk.Leaf leaf = new Disk.Leaf();
            leaf.cluster = disk.take();
            if (old != null) {
                leaf.blocks = old.blocks.clone();
            }
            disk.active.leaves[block / 8] = leaf;
        }
        return disk.active.leaves[block / 8];
    }

    private static Disk.Block ownBlock(Disk disk, int block) {
        Disk.Leaf leaf = ownLeaf(disk, block);
        if (needsCluster(disk, block)) {
            Disk.Block own = new Disk.Block();
            own.cluster = disk.take();
            for (int j = 0; j < 8; j++) {
                own.words[j] = disk.shown(disk.active, 8 * block + j);
            }
            leaf.blocks[block % 8] = own;
        }
        return leaf.blocks[block % 8];
    }
}
