/** Calls on an engine and a model, drawn from a fixed sequence: the same seed always makes the same ones. */
final class RandomCalls {
    final Pair pair;
    final Dice dice;
    final int steps;
    // What the calls of this seed lean to.
    private final int plainFixtures;
    private final int broadestScope;
    private final int greatestModule;
    private final int greatestClass;

    RandomCalls(Check check, int seed) {
        dice = new Dice(seed);
        pair = new Pair(check, "seed " + seed, dice.near(0, 14), dice.near(0, 18));
        plainFixtures = dice.roll(0, 5);
        broadestScope = dice.oneIn(3) ? 3 : 0;
        greatestModule = dice.roll(0, 3);
        greatestClass = dice.roll(0, 3);
        steps = dice.roll(10, dice.oneIn(2) ? 400 : 100);
    }

    /** Makes one call that defines something, or tries to. */
    void define() {
        int fixtures = pair.model.fixtureCount();
        int tests = pair.model.testCount();
        switch (dice.roll(0, 12)) {
            case 0, 1 -> pair.defineFixture(dice.near(broadestScope, 3), paramCount());
            case 2, 3 -> pair.addTest(dice.near(0, greatestModule), dice.near(0, greatestClass));
            case 4, 5 -> pair.addDependency(dice.near(0, fixtures), dice.near(0, fixtures / 2));
            case 6 -> pair.setFailure(dice.near(0, fixtures), dice.near(0, 2), dice.near(0, dice.oneIn(4) ? 15 : 2));
            default -> pair.requestFixture(dice.near(0, tests), dice.near(0, fixtures));
        }
    }

    private int paramCount() {
        return dice.roll(0, 5) < plainFixtures ? dice.roll(0, 1) : dice.near(0, 3);
    }
}
