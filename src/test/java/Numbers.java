/** A fixed sequence of numbers that looks random, so that every run of the tests is the same. */
final class Numbers {
    private long state;

    Numbers(long seed) {
        state = seed;
    }

    int below(int bound) {
        state = state * 6364136223846793005L + 1442695040888963407L;
        return (int) ((state >>> 33) % bound);
    }

    boolean oneIn(int n) {
        return below(n) == 0;
    }

    /** A place, or now and then a number that is none. */
    int perhapsPlace() {
        int[] wrong = {-1, 6, 7, -6, 36, Integer.MIN_VALUE, Integer.MAX_VALUE};
        return oneIn(25) ? wrong[below(wrong.length)] : below(6);
    }
}
