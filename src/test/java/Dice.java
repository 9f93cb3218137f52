/** Numbers that look like chance and are the same in every run. */
final class Dice {
    private long state;

    Dice(long seed) {
        state = seed * 0x9E3779B97F4A7C15L + 0x1234567L;
    }

    /** A number from 0 up to, but not at, the bound. */
    int below(int bound) {
        state = state * 6364136223846793005L + 1442695040888963407L;
        return (int) ((state >>> 33) % bound);
    }

    int from(int least, int most) {
        return least + below(most - least + 1);
    }

    boolean once(int times) {
        return below(times) == 0;
    }
}
