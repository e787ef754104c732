public final class Promise03AddDependencyTest {
    private static final Check check = new Check();

    public static void main(String[] args) {
        undefinedIds();
        onlyEarlierFixtures();
        everyPairOfScopes();
        twiceIsRefused();
        everyPairOfTwelve();
        closureFollowsDependencies();
        falseChangesNothing();
        earlierResultsStay();
        check.finish();
    }

    private static void undefinedIds() {
        FixtureEngineY x = new FixtureEngineY(12, 1);
        x.defineFixture(0, 0);
        x.defineFixture(0, 0);
        for (int a : Check.ODD_INTS) {
            if (a < 0 || a > 1) {
                check.due("addDependency(" + a + ", 0)", x.addDependency(a, 0), false);
                check.due("addDependency(1, " + a + ")", x.addDependency(1, a), false);
                check.due("addDependency(" + a + ", " + a + ")", x.addDependency(a, a), false);
            }
        }
        check.due("addDependency(1, 0)", x.addDependency(1, 0), true);
    }

    private static void onlyEarlierFixtures() {
        FixtureEngineY x = new FixtureEngineY(3, 1);
        for (int f = 0; f < 3; f++) {
            x.defineFixture(1, 0);
        }
        for (int f = 0; f < 3; f++) {
            for (int dep = 0; dep < 3; dep++) {
                check.due("addDependency(" + f + ", " + dep + ")", x.addDependency(f, dep), dep < f);
            }
        }
    }

    private static void everyPairOfScopes() {
        for (int scope = 0; scope <= 3; scope++) {
            for (int depScope = 0; depScope <= 3; depScope++) {
                FixtureEngineY x = new FixtureEngineY(2, 1);
                x.defineFixture(depScope, 0);
                x.defineFixture(scope, 0);
                check.due("scope " + scope + " on scope " + depScope, x.addDependency(1, 0), depScope <= scope);
            }
        }
    }

    private static void twiceIsRefused() {
        FixtureEngineY x = new FixtureEngineY(3, 1);
        for (int f = 0; f < 3; f++) {
            x.defineFixture(3, 0);
        }
        check.due("first addDependency(2, 1)", x.addDependency(2, 1), true);
        check.due("second addDependency(2, 1)", x.addDependency(2, 1), false);
        check.due("addDependency(2, 0)", x.addDependency(2, 0), true);
        check.due("third addDependency(2, 1)", x.addDependency(2, 1), false);
        check.due("addDependency(1, 0)", x.addDependency(1, 0), true);
    }

    private static void everyPairOfTwelve() {
        FixtureEngineY x = new FixtureEngineY(12, 1);
        for (int f = 0; f < 12; f++) {
            x.defineFixture(2, 0);
        }
        for (int round = 0; round < 2; round++) {
            for (int f = 0; f < 12; f++) {
                for (int dep = 0; dep < 12; dep++) {
                    check.due("round " + round + ": addDependency(" + f + ", " + dep + ")",
                        x.addDependency(f, dep), round == 0 && dep < f);
                }
            }
        }
    }

    private static void closureFollowsDependencies() {
        FixtureEngineY x = new FixtureEngineY(6, 2);
        for (int f = 0; f < 6; f++) {
            x.defineFixture(0, 0);
        }
        x.addDependency(4, 2);
        x.addDependency(2, 0);
        x.addDependency(5, 3);
        x.addTest(0, 0);
        x.requestFixture(0, 4);
        x.run();
        String[] want = {"0", "-1", "0", "-1", "0", "-1"};
        for (int f = 0; f < 6; f++) {
            check.due("param of " + f, Check.params(x, f), want[f]);
        }
        check.due("events", Check.events(x), "100000 100020 100040 200040 200020 200000");
    }

    private static void falseChangesNothing() {
        FixtureEngineY x = new FixtureEngineY(4, 2);
        x.defineFixture(3, 2);
        x.defineFixture(0, 0);
        x.defineFixture(1, 2);
        x.addTest(0, 0);
        x.addTest(0, 1);
        x.requestFixture(0, 1);
        x.requestFixture(1, 2);
        x.addDependency(2, 1);
        x.run();
        String before = Check.results(x);
        check.due("a narrower one: addDependency(1, 0)", x.addDependency(1, 0), false);
        check.due("a narrower one: addDependency(2, 0)", x.addDependency(2, 0), false);
        check.due("a later one: addDependency(1, 2)", x.addDependency(1, 2), false);
        check.due("itself: addDependency(1, 1)", x.addDependency(1, 1), false);
        check.due("again: addDependency(2, 1)", x.addDependency(2, 1), false);
        check.due("undefined: addDependency(3, 0)", x.addDependency(3, 0), false);
        check.due("results after refused calls", Check.results(x), before);
        x.run();
        check.due("a new run after refused calls", Check.results(x), before);
        x.defineFixture(3, 0);
        x.requestFixture(0, 3);
        x.run();
        check.due("fixture 3 has no dependency", Check.params(x, 0), "-1 -1 -1");
    }

    private static void earlierResultsStay() {
        FixtureEngineY x = new FixtureEngineY(2, 1);
        x.defineFixture(0, 2);
        x.defineFixture(0, 0);
        x.addTest(0, 0);
        x.requestFixture(0, 1);
        check.due("run()", x.run(), 1);
        String before = Check.results(x);
        check.due("addDependency(1, 0)", x.addDependency(1, 0), true);
        check.due("results after the call", Check.results(x), before);
        check.due("run() with the dependency", x.run(), 2);
    }
}
