import java.lang.management.ManagementFactory;

/** What 512 calls make: next to nothing, for all rows are made in the constructor. */
public final class RoomTest {
    private static final int RUNS = 40;
    private static final long MOST_BYTES_A_RUN = 20_000;
    private static final long MOST_BYTES_AN_OBJECT = 20_000;

    public static void main(String[] args) {
        Checks checks = new Checks("RoomTest");
        com.sun.management.ThreadMXBean threads =
            (com.sun.management.ThreadMXBean) ManagementFactory.getThreadMXBean();
        long self = Thread.currentThread().getId();
        long least = Long.MAX_VALUE;
        for (int run = 0; run < RUNS; run++) {
            LayeredImage image = new LayeredImage(64);
            long before = threads.getThreadAllocatedBytes(self);
            calls(image);
            least = Math.min(least, threads.getThreadAllocatedBytes(self) - before);
        }
        checks.hold("512 calls make " + least + " bytes", least < MOST_BYTES_A_RUN);
        long before = threads.getThreadAllocatedBytes(self);
        LayeredImage image = new LayeredImage(64);
        long made = threads.getThreadAllocatedBytes(self) - before;
        checks.hold("an object has " + made + " bytes", made < MOST_BYTES_AN_OBJECT);
        checks.due("size()", image.size(), 64);
        checks.end();
    }

    private static void calls(LayeredImage image) {
        for (int i = 0; i < 32; i++) {
            image.write(16 * i, i);
            image.snapshot(i);
            image.write(16 * i, i + 1);
            image.revert(i);
            image.delete(i);
            image.overlay();
            image.discard(i);
            image.write(64, i);
            image.overlay();
            image.write(0, i);
            image.commit();
            image.commit();
            image.readOld(i, 7);
            image.stage(i, i, i, i, i);
            image.load();
            image.used();
        }
    }
}
