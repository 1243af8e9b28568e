/**
 * A disk image with copies on write, in a file of clusters with two levels of
 * tables and counted references; with snapshots inside the file, a chain of
 * images below it, and a reader that takes in just the files that are right.
 *
 * The files are held as their words, so what word() tells is what the calls
 * work on. All rows are made once, in the constructor: no call makes an object.
 */
public final class LayeredImage {
    public static final int BAD = -1;
    public static final int FULL = -2;
    public static final int MANY = -3;
    public static final int TAKEN = -4;
    public static final long NONE = 4294967296L;

    private static final int MOST_IMAGES = 3;
    private static final int MOST_SNAPSHOTS = 4;
    private static final int MOST_BLOCKS = 64;

    private static final int FILE_WORDS = 512;
    private static final int CLUSTERS = 64;
    private static final int LAST_CLUSTER = CLUSTERS - 1;
    // A cluster's words, a table's leaves, a leaf's blocks, a count cluster's counts.
    private static final int EIGHT = 8;
    private static final int LAST_OF_EIGHT = EIGHT - 1;

    private static final int STAGE_PARTS = 128;
    private static final int PART_WORDS = 4;

    // The header's cluster, and the places in it.
    private static final int HEADER = 0;
    private static final int MAGIC = 0;
    private static final int VERSION = 1;
    private static final int SIZE = 2;
    private static final int ACTIVE_TABLE = 3;
    private static final int COUNT_TABLE = 4;
    private static final int SNAPSHOTS = 5;
    private static final int SNAPSHOT_LIST = 6;
    private static final int SPARE = 7;

    private static final int MAGIC_WORD = 7001;
    private static final int VERSION_WORD = 1;

    // What a leaf says of a block; any greater word leads to a cluster.
    private static final int ABSENT = 0;
    private static final int ZERO = 2;

    // The chain's images from the lowest up; those from `height` on lie idle.
    private final Image[] chain;
    private int height;
    private final ClusterFile staged;
    private final Reader reader;

    public LayeredImage(int size) {
        chain = new Image[MOST_IMAGES];
        Image below = null;
        for (int i = 0; i < MOST_IMAGES; i++) {
            Image image = new Image(below);
            chain[i] = image;
            below = image;
        }
        staged = new ClusterFile();
        reader = new Reader();
        height = 1;
        chain[0].file.format(Math.max(1, Math.min(MOST_BLOCKS, size)));
    }

    public int write(int address, int value) {
        return top().hasAddress(address) ? top().putWord(address, value) : BAD;
    }

    public int read(int address) {
        Image top = top();
        return top.hasAddress(address) ? top.shown(top.activeTable(), address) : 0;
    }

    public int discard(int block) {
        return top().hasBlock(block) ? top().dropBlock(block) : BAD;
    }

    public int snapshot(int name) {
        return top().addSnapshot(name);
    }

    public int revert(int name) {
        int number = top().snapshotNamed(name);
        if (number < 0) {
            return BAD;
        }
        top().returnTo(number);
        return 0;
    }

    public int delete(int name) {
        int number = top().snapshotNamed(name);
        if (number < 0) {
            return BAD;
        }
        top().removeSnapshot(number);
        return 0;
    }

    public long readOld(int name, int address) {
        Image top = top();
        int number = top.snapshotNamed(name);
        if (number < 0 || !top.hasAddress(address)) {
            return NONE;
        }
        return top.shown(top.snapshotTable(number), address);
    }

    public int overlay() {
        if (height == MOST_IMAGES) {
            return MANY;
        }
        int size = top().blocks();
        height++;
        top().file.format(size);
        return height;
    }

    public int commit() {
        Image upper = top();
        Image lower = upper.below;
        if (lower == null) {
            return BAD;
        }
        if (upper.snapshotCount() > 0) {
            return TAKEN;
        }
        int put = lower.takeIn(upper);
        if (put != FULL) {
            height--;
        }
        return put;
    }

    public int grow(int size) {
        if (size <= top().blocks() || size > MOST_BLOCKS) {
            return BAD;
        }
        top().file.put(HEADER, SIZE, size);
        return 0;
    }

    public int size() {
        return top().blocks();
    }

    public int images() {
        return height;
    }

    public int used() {
        return top().file.clustersInUse();
    }

    public int word(int image, int p) {
        if (image < 0 || image >= height || p < 0 || p >= FILE_WORDS) {
            return 0;
        }
        return chain[height - 1 - image].file.at(p / EIGHT, p % EIGHT);
    }

    public boolean stage(int p, int a, int b, int c, int d) {
        if (p < 0 || p >= STAGE_PARTS) {
            return false;
        }
        int cluster = p * PART_WORDS / EIGHT;
        int place = p * PART_WORDS % EIGHT;
        staged.put(cluster, place, a);
        staged.put(cluster, place + 1, b);
        staged.put(cluster, place + 2, c);
        staged.put(cluster, place + 3, d);
        return true;
    }

    public int load() {
        int wrong = reader.firstWrong(staged);
        if (wrong == 0) {
            height = 1;
            top().file.becomeLike(staged);
        }
        return wrong;
    }

    private Image top() {
        return chain[height - 1];
    }

    private static boolean isLead(int word) {
        return word > ZERO;
    }

    private static int clusterOf(int lead) {
        return lead >> 2;
    }

    private static int leadTo(int cluster, boolean alone) {
        return 4 * cluster + (alone ? 1 : 0);
    }

    /** The words of a file, and the counts of its clusters. */
    private static final class ClusterFile {
        private final int[] words;

        ClusterFile() {
            words = new int[FILE_WORDS];
        }

        // The masks keep each index inside the file, also for a word of the stage.
        int at(int cluster, int place) {
            return words[(cluster & LAST_CLUSTER) * EIGHT + (place & LAST_OF_EIGHT)];
        }

        void put(int cluster, int place, int value) {
            words[(cluster & LAST_CLUSTER) * EIGHT + (place & LAST_OF_EIGHT)] = value;
        }

        void becomeLike(ClusterFile other) {
            System.arraycopy(other.words, 0, words, 0, FILE_WORDS);
        }

        void copyCluster(ClusterFile source, int from, int to) {
            for (int i = 0; i < EIGHT; i++) {
                put(to, i, source.at(from, i));
            }
        }

        boolean isBlank(int cluster, int fromPlace) {
            for (int i = fromPlace; i < EIGHT; i++) {
                if (at(cluster, i) != 0) {
                    return false;
                }
            }
            return true;
        }

        void format(int size) {
            for (int i = 0; i < FILE_WORDS; i++) {
                words[i] = 0;
            }
            put(HEADER, MAGIC, MAGIC_WORD);
            put(HEADER, VERSION, VERSION_WORD);
            put(HEADER, SIZE, size);
            put(HEADER, ACTIVE_TABLE, 3);
            put(HEADER, COUNT_TABLE, 1);
            put(1, 0, 2);
            for (int cluster = 0; cluster <= 3; cluster++) {
                put(2, cluster, 1);
            }
        }

        int count(int cluster) {
            int keeper = at(at(HEADER, COUNT_TABLE), cluster / EIGHT);
            return keeper == 0 ? 0 : at(keeper, cluster % EIGHT);
        }

        // A cluster that nothing leads to any more is to have no words left.
        void addToCount(int cluster, int change) {
            int keeper = at(at(HEADER, COUNT_TABLE), cluster / EIGHT);
            int count = at(keeper, cluster % EIGHT) + change;
            put(keeper, cluster % EIGHT, count);
            if (count == 0) {
                for (int i = 0; i < EIGHT; i++) {
                    put(cluster, i, 0);
                }
            }
        }

        int clustersInUse() {
            int inUse = 0;
            for (int cluster = 0; cluster < CLUSTERS; cluster++) {
                inUse += count(cluster) > 0 ? 1 : 0;
            }
            return inUse;
        }

        // Eight clusters without counts cost one of them for their count cluster.
        int room() {
            int room = CLUSTERS - clustersInUse();
            for (int i = 0; i < EIGHT; i++) {
                room -= at(at(HEADER, COUNT_TABLE), i) == 0 ? 1 : 0;
            }
            return room;
        }

        // Only called when there is room.
        int take() {
            int cluster = leastFree();
            int countTable = at(HEADER, COUNT_TABLE);
            if (at(countTable, cluster / EIGHT) == 0) {
                put(countTable, cluster / EIGHT, cluster);
                addToCount(cluster, 1);
                cluster = leastFree();
            }
            addToCount(cluster, 1);
            return cluster;
        }

        private int leastFree() {
            int cluster = 1;
            while (cluster < LAST_CLUSTER && count(cluster) > 0) {
                cluster++;
            }
            return cluster;
        }
    }

    /** One image of the chain: the tables, leaves and snapshots in its file. */
    private static final class Image {
        private final ClusterFile file;
        private final Image below;

        Image(Image below) {
            file = new ClusterFile();
            this.below = below;
        }

        int blocks() {
            return file.at(HEADER, SIZE);
        }

        boolean hasBlock(int block) {
            return block >= 0 && block < blocks();
        }

        boolean hasAddress(int address) {
            return address >= 0 && address < EIGHT * blocks();
        }

        int activeTable() {
            return file.at(HEADER, ACTIVE_TABLE);
        }

        private int leafLead(int block) {
            return file.at(activeTable(), block / EIGHT);
        }

        private int blockWord(int table, int block) {
            int lead = file.at(table, block / EIGHT);
            return isLead(lead) ? file.at(clusterOf(lead), block % EIGHT) : ABSENT;
        }

        private int activeWord(int block) {
            return blockWord(activeTable(), block);
        }

        private void putActiveWord(int block, int word) {
            file.put(clusterOf(leafLead(block)), block % EIGHT, word);
        }

        // The blocks that an image's size has not are ABSENT in its tables too.
        int shown(int table, int address) {
            int word = blockWord(table, address / EIGHT);
            Image image = this;
            while (word == ABSENT && image.below != null) {
                image = image.below;
                word = image.activeWord(address / EIGHT);
            }
            return isLead(word) ? image.file.at(clusterOf(word), address % EIGHT) : 0;
        }

        int putWord(int address, int value) {
            int block = address / EIGHT;
            int takings = leavesFor(block) + clustersFor(block);
            if (file.room() < takings) {
                return FULL;
            }
            giveLeaf(block);
            file.put(giveCluster(block), address % EIGHT, value);
            tellFlags();
            return takings;
        }

        int dropBlock(int block) {
            if (!dropChanges(block)) {
                return 0;
            }
            int takings = leavesFor(block);
            if (file.room() < takings) {
                return FULL;
            }
            giveLeaf(block);
            makeZero(block);
            tellFlags();
            return takings;
        }

        private boolean dropChanges(int block) {
            int word = activeWord(block);
            return isLead(word) || word == ABSENT && below != null;
        }

        private void makeZero(int block) {
            int old = activeWord(block);
            putActiveWord(block, ZERO);
            release(old);
        }

        private void release(int word) {
            if (isLead(word)) {
                file.addToCount(clusterOf(word), -1);
            }
        }

        private boolean isOwn(int word) {
            return isLead(word) && file.count(clusterOf(word)) == 1;
        }

        private int leavesFor(int block) {
            return isOwn(leafLead(block)) ? 0 : 1;
        }

        private int clustersFor(int block) {
            return isOwn(activeWord(block)) ? 0 : 1;
        }

        // A block's count is of tables, not of leaves: the copy of a leaf changes none.
        private void giveLeaf(int block) {
            int old = leafLead(block);
            if (isOwn(old)) {
                return;
            }
            int leaf = file.take();
            if (isLead(old)) {
                file.copyCluster(file, clusterOf(old), leaf);
            }
            file.put(activeTable(), block / EIGHT, leadTo(leaf, true));
            release(old);
        }

        private int giveCluster(int block) {
            int old = activeWord(block);
            if (isOwn(old)) {
                return clusterOf(old);
            }
            int cluster = file.take();
            for (int i = 0; i < EIGHT; i++) {
                file.put(cluster, i, shown(activeTable(), EIGHT * block + i));
            }
            putActiveWord(block, leadTo(cluster, true));
            release(old);
            return cluster;
        }

        // A count that changes is told by words in many tables: all are told anew.
        private void tellFlags() {
            tellFlagsBelow(activeTable());
            int snapshots = snapshotCount();
            for (int i = 0; i < snapshots; i++) {
                tellFlagsBelow(snapshotTable(i));
            }
        }

        private void tellFlagsBelow(int table) {
            tellFlagsIn(table);
            for (int i = 0; i < EIGHT; i++) {
                int lead = file.at(table, i);
                if (isLead(lead)) {
                    tellFlagsIn(clusterOf(lead));
                }
            }
        }

        private void tellFlagsIn(int cluster) {
            for (int i = 0; i < EIGHT; i++) {
                int word = file.at(cluster, i);
                if (isLead(word)) {
                    boolean alone = file.count(clusterOf(word)) == 1;
                    file.put(cluster, i, leadTo(clusterOf(word), alone));
                }
            }
        }

        int snapshotCount() {
            return file.at(HEADER, SNAPSHOTS);
        }

        private int snapshotList() {
            return file.at(HEADER, SNAPSHOT_LIST);
        }

        int snapshotTable(int number) {
            return file.at(snapshotList(), 2 * number);
        }

        int snapshotNamed(int name) {
            int snapshots = snapshotCount();
            for (int i = 0; i < snapshots; i++) {
                if (file.at(snapshotList(), 2 * i + 1) == name) {
                    return i;
                }
            }
            return -1;
        }

        int addSnapshot(int name) {
            int number = snapshotCount();
            if (snapshotNamed(name) >= 0) {
                return TAKEN;
            }
            if (number == MOST_SNAPSHOTS) {
                return MANY;
            }
            if (file.room() < (number == 0 ? 2 : 1)) {
                return FULL;
            }
            if (number == 0) {
                file.put(HEADER, SNAPSHOT_LIST, file.take());
            }
            int table = file.take();
            file.copyCluster(file, activeTable(), table);
            file.put(snapshotList(), 2 * number, table);
            file.put(snapshotList(), 2 * number + 1, name);
            file.put(HEADER, SNAPSHOTS, number + 1);
            countTable(table, 1);
            tellFlags();
            return 0;
        }

        void returnTo(int number) {
            int table = snapshotTable(number);
            countTable(table, 1);
            countTable(activeTable(), -1);
            file.copyCluster(file, table, activeTable());
            tellFlags();
        }

        void removeSnapshot(int number) {
            int table = snapshotTable(number);
            countTable(table, -1);
            file.addToCount(table, -1);
            closeListGap(number);
            int left = snapshotCount() - 1;
            file.put(HEADER, SNAPSHOTS, left);
            if (left == 0) {
                file.addToCount(snapshotList(), -1);
                file.put(HEADER, SNAPSHOT_LIST, 0);
            }
            tellFlags();
        }

        private void closeListGap(int number) {
            int list = snapshotList();
            int end = 2 * snapshotCount() - 2;
            for (int i = 2 * number; i < end; i++) {
                file.put(list, i, file.at(list, i + 2));
            }
            file.put(list, end, 0);
            file.put(list, end + 1, 0);
        }

        // A table comes or goes: all that it leads to counts it in or out.
        private void countTable(int table, int change) {
            for (int i = 0; i < EIGHT; i++) {
                int lead = file.at(table, i);
                if (isLead(lead)) {
                    countLeaf(clusterOf(lead), change);
                }
            }
        }

        // The leaf itself comes last: with a count of 0 its words are gone.
        private void countLeaf(int leaf, int change) {
            for (int i = 0; i < EIGHT; i++) {
                int word = file.at(leaf, i);
                if (isLead(word)) {
                    file.addToCount(clusterOf(word), change);
                }
            }
            file.addToCount(leaf, change);
        }

        int takeIn(Image upper) {
            if (file.room() < takingsFor(upper)) {
                return FULL;
            }
            file.put(HEADER, SIZE, upper.blocks());
            int takenIn = 0;
            for (int block = 0; block < MOST_BLOCKS; block++) {
                int word = upper.activeWord(block);
                if (isLead(word)) {
                    giveLeaf(block);
                    file.copyCluster(upper.file, clusterOf(word), giveCluster(block));
                } else if (word == ZERO && dropChanges(block)) {
                    giveLeaf(block);
                    makeZero(block);
                }
                takenIn += word == ABSENT ? 0 : 1;
            }
            tellFlags();
            return takenIn;
        }

        // Blocks of one leaf share its taking; no other block's step changes a taking.
        private int takingsFor(Image upper) {
            int takings = 0;
            int leafCounted = -1;
            for (int block = 0; block < MOST_BLOCKS; block++) {
                int word = upper.activeWord(block);
                if (isLead(word)) {
                    takings += clustersFor(block);
                }
                boolean changes = isLead(word) || word == ZERO && dropChanges(block);
                if (changes && leafCounted != block / EIGHT) {
                    takings += leavesFor(block);
                    leafCounted = block / EIGHT;
                }
            }
            return takings;
        }
    }

    /** Looks through the stage for what is wrong with it as a file. */
    private static final class Reader {
        // The numbers of the uses that a cluster can be led to for; 0 is none.
        private static final int USE_ACTIVE_TABLE = 1;
        private static final int USE_COUNT_TABLE = 2;
        private static final int USE_SNAPSHOT_LIST = 3;
        private static final int USE_SNAPSHOT_TABLES = 4;
        private static final int USE_LEAVES = USE_SNAPSHOT_TABLES + MOST_SNAPSHOTS;
        private static final int USE_COUNT_CLUSTERS = USE_LEAVES + EIGHT;
        private static final int USE_BLOCKS = USE_COUNT_CLUSTERS + EIGHT;

        private final int[] uses;
        private final int[] counts;

        Reader() {
            uses = new int[CLUSTERS];
            counts = new int[CLUSTERS];
        }

        int firstWrong(ClusterFile file) {
            if (!isHeaderRight(file)) {
                return 1;
            }
            if (!areLeadsRight(file)) {
                return 2;
            }
            if (!isListRight(file)) {
                return 3;
            }
            if (!areCountsRight(file)) {
                return 4;
            }
            if (!areFlagsRight(file)) {
                return 5;
            }
            return areOthersBlank(file) ? 0 : 6;
        }

        private static boolean isHeaderRight(ClusterFile file) {
            int size = file.at(HEADER, SIZE);
            int snapshots = file.at(HEADER, SNAPSHOTS);
            return file.at(HEADER, MAGIC) == MAGIC_WORD
                && file.at(HEADER, VERSION) == VERSION_WORD
                && size >= 1 && size <= MOST_BLOCKS
                && snapshots >= 0 && snapshots <= MOST_SNAPSHOTS
                && file.at(HEADER, SPARE) == 0
                && (file.at(HEADER, SNAPSHOT_LIST) == 0) == (snapshots == 0);
        }

        // Notes for each cluster its use, and how often it is led to: its due count.
        private boolean areLeadsRight(ClusterFile file) {
            for (int i = 0; i < CLUSTERS; i++) {
                uses[i] = 0;
                counts[i] = 0;
            }
            counts[HEADER] = 1;
            return areHeaderLeadsRight(file)
                && areCountLeadsRight(file)
                && areListLeadsRight(file)
                && areTableLeadsRight(file, file.at(HEADER, ACTIVE_TABLE));
        }

        // A use of one place alone is claimed once, so one test serves all uses.
        private boolean claim(int cluster, int use) {
            if (cluster < 1 || cluster > LAST_CLUSTER) {
                return false;
            }
            if (uses[cluster] != 0 && uses[cluster] != use) {
                return false;
            }
            uses[cluster] = use;
            counts[cluster]++;
            return true;
        }

        private boolean areHeaderLeadsRight(ClusterFile file) {
            int list = file.at(HEADER, SNAPSHOT_LIST);
            return claim(file.at(HEADER, ACTIVE_TABLE), USE_ACTIVE_TABLE)
                && claim(file.at(HEADER, COUNT_TABLE), USE_COUNT_TABLE)
                && (list == 0 || claim(list, USE_SNAPSHOT_LIST));
        }

        private boolean areCountLeadsRight(ClusterFile file) {
            for (int i = 0; i < EIGHT; i++) {
                int keeper = file.at(file.at(HEADER, COUNT_TABLE), i);
                if (keeper != 0 && !claim(keeper, USE_COUNT_CLUSTERS + i)) {
                    return false;
                }
            }
            return true;
        }

        private boolean areListLeadsRight(ClusterFile file) {
            int list = file.at(HEADER, SNAPSHOT_LIST);
            int snapshots = file.at(HEADER, SNAPSHOTS);
            for (int i = 0; i < snapshots; i++) {
                int table = file.at(list, 2 * i);
                if (!claim(table, USE_SNAPSHOT_TABLES + i) || !areTableLeadsRight(file, table)) {
                    return false;
                }
            }
            return true;
        }

        private boolean areTableLeadsRight(ClusterFile file, int table) {
            for (int i = 0; i < EIGHT; i++) {
                int word = file.at(table, i);
                if (word == 0) {
                    continue;
                }
                if (EIGHT * i >= file.at(HEADER, SIZE)
                    || !claim(clusterLedTo(word), USE_LEAVES + i)
                    || !areLeafLeadsRight(file, clusterOf(word), EIGHT * i)) {
                    return false;
                }
            }
            return true;
        }

        private boolean areLeafLeadsRight(ClusterFile file, int leaf, int first) {
            for (int i = 0; i < EIGHT; i++) {
                int word = file.at(leaf, i);
                if (word == ABSENT) {
                    continue;
                }
                if (first + i >= file.at(HEADER, SIZE)) {
                    return false;
                }
                if (word != ZERO && !claim(clusterLedTo(word), USE_BLOCKS + first + i)) {
                    return false;
                }
            }
            return true;
        }

        // 0, which no claim takes, for a word that is not 4 * c + f.
        private static int clusterLedTo(int word) {
            return (word & 2) == 0 ? clusterOf(word) : 0;
        }

        private static boolean isListRight(ClusterFile file) {
            int list = file.at(HEADER, SNAPSHOT_LIST);
            int end = 2 * file.at(HEADER, SNAPSHOTS);
            for (int i = 1; i < end; i += 2) {
                for (int j = 1; j < i; j += 2) {
                    if (file.at(list, i) == file.at(list, j)) {
                        return false;
                    }
                }
            }
            return end == 0 || file.isBlank(list, end);
        }

        private boolean areCountsRight(ClusterFile file) {
            for (int i = 0; i < CLUSTERS; i++) {
                if (file.count(i) != counts[i]) {
                    return false;
                }
            }
            return true;
        }

        private boolean areFlagsRight(ClusterFile file) {
            for (int i = 0; i < CLUSTERS; i++) {
                if (hasFlags(uses[i]) && !areFlagsRightIn(file, i)) {
                    return false;
                }
            }
            return true;
        }

        private static boolean hasFlags(int use) {
            return use == USE_ACTIVE_TABLE
                || use >= USE_SNAPSHOT_TABLES && use < USE_LEAVES + EIGHT;
        }

        private boolean areFlagsRightIn(ClusterFile file, int cluster) {
            for (int i = 0; i < EIGHT; i++) {
                int word = file.at(cluster, i);
                if (isLead(word)) {
                    boolean alone = counts[clusterOf(word) & LAST_CLUSTER] == 1;
                    if (word != leadTo(clusterOf(word), alone)) {
                        return false;
                    }
                }
            }
            return true;
        }

        private boolean areOthersBlank(ClusterFile file) {
            for (int i = 1; i < CLUSTERS; i++) {
                if (uses[i] == 0 && !file.isBlank(i, 0)) {
                    return false;
                }
            }
            return true;
        }
    }
}
