/** Numbers that look drawn, and are the same in each run. */
final class Draws {
    private long state;

    Draws(long seed) {
        state = seed;
    }

    /** A number from least to most. */
    int from(int least, int most) {
        state = state * 6364136223846793005L + 1442695040888963407L;
        return least + (int) Long.remainderUnsigned(state >>> 33, most - least + 1L);
    }
}
