/** Engines in the states that a call can meet. */
enum Scene {
    NEW, DEFINED, RUN, CHANGED_AFTER_A_RUN, FULL, REFUSED_AFTER_A_RUN, REFUSED_FIRST_RUN;

    FixtureEngineY engine() {
        return pair(new Check()).engine;
    }

    Pair pair(Check check) {
        Pair pair = this == FULL ? new Pair(check, name(), 4, 3) : new Pair(check, name(), 6, 5);
        if (this != NEW) {
            define(pair);
        }
        if (this == RUN || this == CHANGED_AFTER_A_RUN || this == FULL || this == REFUSED_AFTER_A_RUN) {
            pair.run();
        }
        if (this == CHANGED_AFTER_A_RUN) {
            change(pair);
        }
        if (this == REFUSED_AFTER_A_RUN || this == REFUSED_FIRST_RUN) {
            growTooLarge(pair);
            pair.run();
        }
        return pair;
    }

    /** Four fixtures and three tests: 6 + 2 + 3 items. */
    private static void define(Pair pair) {
        pair.defineFixture(0, 2);
        pair.defineFixture(1, 0);
        pair.defineFixture(2, 3);
        pair.defineFixture(3, 0);
        pair.addDependency(1, 0);
        pair.addDependency(3, 1);
        pair.addDependency(3, 2);
        pair.setFailure(0, 1, 1);
        pair.setFailure(2, 2, 1);
        pair.setFailure(3, 0, 3);
        pair.addTest(0, 0);
        pair.addTest(0, 1);
        pair.addTest(1, 0);
        pair.requestFixture(0, 3);
        pair.requestFixture(1, 1);
        pair.requestFixture(2, 2);
    }

    private static void change(Pair pair) {
        pair.defineFixture(0, 2);
        pair.addDependency(3, 0);
        pair.addDependency(2, 0);
        pair.setFailure(0, 0, 1);
        pair.setFailure(3, 0, 0);
        pair.addTest(0, 0);
        pair.requestFixture(2, 4);
        pair.requestFixture(1, 2);
        pair.requestFixture(3, 0);
    }

    /** 54 + 2 + 27 items. */
    private static void growTooLarge(Pair pair) {
        pair.defineFixture(3, 3);
        pair.defineFixture(0, 3);
        for (int f = 4; f <= 5; f++) {
            pair.requestFixture(0, f);
            pair.requestFixture(2, f);
        }
    }
}
