/** A fixed row of numbers, so that a test run is the same each time. */
final class Draw {
    private long state;

    Draw(long start) {
        state = start;
    }

    int below(int bound) {
        state = state * 6364136223846793005L + 1442695040888963407L;
        return (int) ((state >>> 33) % bound);
    }
}
