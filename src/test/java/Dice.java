/** Numbers that look thrown but are the same in every run. */
final class Dice {
    private long state;

    Dice(long seed) {
        state = seed * 0x9E3779B97F4A7C15L + 1;
    }

    int bits() {
        state = state * 6364136223846793005L + 1442695040888963407L;
        long mixed = (state ^ state >>> 33) * 0xFF51AFD7ED558CCDL;
        return (int) (mixed >>> 32);
    }

    int below(int bound) {
        return Math.floorMod(bits(), bound);
    }

    int of(int... faces) {
        return faces[below(faces.length)];
    }
}
