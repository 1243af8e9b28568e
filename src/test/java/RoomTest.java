import java.lang.management.ManagementFactory;
import java.util.function.Consumer;

/**
 * What 512 calls make: next to nothing, for all rows are made in the constructor,
 * for a mix of calls and for each kind of call alone.
 */
public final class RoomTest {
    private static final int CALLS = 512;
    private static final int RUNS = 40;
    private static final long MOST_BYTES_A_RUN = 20_000;
    private static final long MOST_BYTES_AN_OBJECT = 20_000;

    private static final Checks CHECKS = new Checks("RoomTest");

    public static void main(String[] args) {
        mix();
        run("write", x -> x.write(300, 5));
        run("write, BAD", x -> x.write(-1, 5));
        run("read", x -> x.read(300));
        run("discard", x -> x.discard(63));
        run("snapshot", x -> x.snapshot(x.used()));
        run("revert", x -> x.revert(1));
        run("delete", x -> x.delete(1));
        run("readOld", x -> x.readOld(1, 300));
        run("overlay", x -> x.overlay());
        run("commit", x -> x.commit());
        run("overlay and commit", x -> x.commit(), x -> x.overlay());
        run("snapshot, revert and delete", x -> x.snapshot(9), x -> x.revert(9), x -> x.delete(9));
        run("write and snapshot", x -> x.write(300, 6), x -> x.snapshot(9), x -> x.delete(9));
        run("commit of a block", x -> x.overlay(), x -> x.write(300, 6), x -> x.commit());
        run("grow", x -> x.grow(64));
        run("size, images and used", x -> x.size(), x -> x.images(), x -> x.used());
        run("word", x -> x.word(0, 511));
        run("stage", x -> x.stage(127, 0, 0, 0, 0));
        run("load", x -> x.load());
        object();
        CHECKS.end();
    }

    /** The calls in turn, on an object with a staged file, blocks, a snapshot and an image below. */
    @SafeVarargs
    private static void run(String name, Consumer<LayeredImage>... calls) {
        long least = Long.MAX_VALUE;
        for (int i = 0; i < RUNS; i++) {
            LayeredImage image = new LayeredImage(64);
            long before = allocated();
            int made = prepare(image);
            for (int call = 0; made < CALLS; call++, made++) {
                calls[call % calls.length].accept(image);
            }
            least = Math.min(least, allocated() - before);
        }
        CHECKS.hold(name + ": 512 calls make " + least + " bytes", least < MOST_BYTES_A_RUN);
    }

    private static void object() {
        long before = allocated();
        LayeredImage image = new LayeredImage(64);
        long made = allocated() - before;
        CHECKS.hold("an object has " + made + " bytes", made < MOST_BYTES_AN_OBJECT);
        CHECKS.due("size()", image.size(), 64);
    }

    private static void mix() {
        long least = Long.MAX_VALUE;
        for (int i = 0; i < RUNS; i++) {
            LayeredImage image = new LayeredImage(64);
            long before = allocated();
            mixed(image);
            least = Math.min(least, allocated() - before);
        }
        CHECKS.hold("512 mixed calls make " + least + " bytes", least < MOST_BYTES_A_RUN);
    }

    private static void mixed(LayeredImage image) {
        for (int i = 0; i < 32; i++) {
            image.write(16 * i, i);
            image.snapshot(i);
            image.write(16 * i, i + 1);
            image.revert(i);
            image.delete(i);
            image.overlay();
            image.discard(i);
            image.write(64, i);
            image.overlay();
            image.write(0, i);
            image.commit();
            image.commit();
            image.readOld(i, 7);
            image.stage(i, i, i, i, i);
            image.load();
            image.used();
        }
    }

    private static int prepare(LayeredImage image) {
        image.stage(0, 7001, 1, 64, 3);
        image.stage(1, 1, 0, 0, 0);
        image.stage(2, 2, 0, 0, 0);
        image.stage(4, 1, 1, 1, 1);
        for (int block = 0; block < 40; block++) {
            image.write(8 * block, block);
        }
        image.overlay();
        for (int block = 0; block < 30; block++) {
            image.write(8 * block + 1, block);
        }
        image.snapshot(1);
        return 4 + 40 + 1 + 30 + 1;
    }

    private static long allocated() {
        com.sun.management.ThreadMXBean threads =
            (com.sun.management.ThreadMXBean) ManagementFactory.getThreadMXBean();
        return threads.getThreadAllocatedBytes(Thread.currentThread().getId());
    }
}
