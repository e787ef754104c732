/** Engines in the states that a call can meet. */
enum Scene {
    NEW, DEFINED, RUN, CHANGED_AFTER_A_RUN, FULL, TOO_LARGE, TOO_LARGE_AFTER_A_RUN, REFUSED_FIRST_RUN,
    REFUSED_AFTER_A_RUN;

    FixtureEngineY engine() {
        return pair(new Check()).engine;
    }

    Pair pair(Check check) {
        Pair pair = this == FULL ? new Pair(check, name(), 4, 3) : new Pair(check, name(), 6, 5);
        switch (this) {
            case NEW -> { }
            case DEFINED -> define(pair);
            case RUN, FULL -> defineAndRun(pair);
            case CHANGED_AFTER_A_RUN -> {
                defineAndRun(pair);
                change(pair);
            }
            case TOO_LARGE -> {
                define(pair);
                growTooLarge(pair);
            }
            case TOO_LARGE_AFTER_A_RUN -> {
                defineAndRun(pair);
                growTooLarge(pair);
            }
            case REFUSED_FIRST_RUN -> {
                define(pair);
                growTooLarge(pair);
                pair.run();
            }
            case REFUSED_AFTER_A_RUN -> {
                defineAndRun(pair);
                growTooLarge(pair);
                pair.run();
            }
        }
        return pair;
    }

    private static void defineAndRun(Pair pair) {
        define(pair);
        pair.run();
    }

    /** Four fixtures and three tests: 6 + 2 + 6 items. */
    private static void define(Pair pair) {
        pair.defineFixture(0, 2);
        pair.defineFixture(1, 0);
        pair.defineFixture(2, 3);
        pair.defineFixture(3, 0);
        pair.addDependency(1, 0);
        pair.addDependency(3, 1);
        pair.addDependency(3, 2);
        pair.setFailure(0, 1, 1);
        pair.setFailure(2, 1, 1);
        pair.setFailure(3, 0, 3);
        pair.addTest(0, 0);
        pair.addTest(1, 1);
        pair.addTest(1, 0);
        pair.requestFixture(0, 3);
        pair.requestFixture(1, 1);
        pair.requestFixture(2, 2);
        pair.requestFixture(2, 1);
    }

    private static void change(Pair pair) {
        pair.defineFixture(0, 2);
        pair.addDependency(3, 0);
        pair.addDependency(2, 0);
        pair.setFailure(0, 0, 1);
        pair.setFailure(3, 0, 0);
        pair.addTest(0, 0);
        pair.requestFixture(2, 4);
        pair.requestFixture(1, 2);
        pair.requestFixture(3, 0);
    }

    /** 54 + 2 + 54 items. */
    private static void growTooLarge(Pair pair) {
        pair.defineFixture(3, 3);
        pair.defineFixture(0, 3);
        for (int f = 4; f <= 5; f++) {
            pair.requestFixture(0, f);
            pair.requestFixture(2, f);
        }
    }
}
