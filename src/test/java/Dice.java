/** A fixed sequence of numbers: the same ones in every run of the tests. */
final class Dice {
    private long state;

    Dice(long seed) {
        state = seed * 0x9E3779B97F4A7C15L + 1;
    }

    /** A number in least..greatest. */
    int roll(int least, int greatest) {
        state = state * 6364136223846793005L + 1442695040888963407L;
        return least + (int) ((state >>> 33) % (greatest - least + 1));
    }

    boolean oneIn(int n) {
        return roll(1, n) == 1;
    }

    /** A number in least..greatest most times, now and then one beside it or far away. */
    int near(int least, int greatest) {
        if (oneIn(12)) {
            return roll(least - 2, greatest + 2);
        }
        return oneIn(40) ? Check.ODD_INTS[roll(0, Check.ODD_INTS.length - 1)] : roll(least, greatest);
    }
}
