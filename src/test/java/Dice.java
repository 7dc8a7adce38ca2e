/** Numbers that look thrown, and are the same in every run. */
final class Dice {
    private long state;

    Dice(long seed) {
        state = seed * 0x9E3779B97F4A7C15L + 12345;
    }

    /** 0 .. sides less 1. */
    int roll(int sides) {
        state = state * 6364136223846793005L + 1442695040888963407L;
        return (int) ((state >>> 33) % sides);
    }

    int between(int low, int high) {
        return low + roll(high - low + 1);
    }
}
