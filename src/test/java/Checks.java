import java.util.Arrays;

/** Counts the answers that are not the ones that are due. */
final class Checks {
    private static final int MOST_TOLD = 20;

    private final String name;
    private final boolean aloud;
    private int made;
    private int wrong;

    Checks(String name) {
        this(name, true);
    }

    Checks(String name, boolean aloud) {
        this.name = name;
        this.aloud = aloud;
    }

    void due(String call, long got, long want) {
        made++;
        if (got != want) {
            tellWrong(call + " answered " + got + ", due is " + want);
        }
    }

    void due(String call, boolean got, boolean want) {
        due(call, got ? 1 : 0, want ? 1 : 0);
    }

    /** All words of two files, as one check. */
    void same(String what, int[] got, int[] want) {
        int p = Arrays.mismatch(got, want);
        due(what + (p < 0 ? "" : ": word " + p), p < 0 ? 0 : got[p], p < 0 ? 0 : want[p]);
    }

    void hold(String claim, boolean holds) {
        made++;
        if (!holds) {
            tellWrong("does not hold: " + claim);
        }
    }

    private void tellWrong(String what) {
        wrong++;
        if (aloud && wrong <= MOST_TOLD) {
            System.out.println("  " + name + ": " + what);
        }
    }

    int wrong() {
        return wrong;
    }

    void end() {
        System.out.println("  " + name + ": " + made + " checks, " + wrong + " wrong");
        if (wrong != 0 || made == 0) {
            System.exit(1);
        }
    }
}
