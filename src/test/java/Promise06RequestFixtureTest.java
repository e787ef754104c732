public final class Promise06RequestFixtureTest {
    private static final Check check = new Check();

    public static void main(String[] args) {
        undefinedIds();
        everyPairOnce();
        closureHoldsTheRequest();
        aDependencyMayBeRequestedToo();
        falseChangesNothing();
        earlierResultsStay();
        check.finish();
    }

    private static void undefinedIds() {
        FixtureEngineY x = new FixtureEngineY(12, 16);
        x.defineFixture(0, 0);
        x.defineFixture(0, 0);
        x.addTest(0, 0);
        x.addTest(0, 0);
        x.addTest(0, 0);
        for (int a : Check.ODD_INTS) {
            if (a < 0 || a > 2) {
                check.due("requestFixture(" + a + ", 0)", x.requestFixture(a, 0), false);
            }
            if (a < 0 || a > 1) {
                check.due("requestFixture(0, " + a + ")", x.requestFixture(0, a), false);
            }
        }
        check.due("requestFixture(2, 1)", x.requestFixture(2, 1), true);
        check.due("requestFixture(1, 2)", x.requestFixture(1, 2), false);
    }

    private static void everyPairOnce() {
        FixtureEngineY x = new FixtureEngineY(12, 16);
        for (int f = 0; f < 12; f++) {
            x.defineFixture(f % 4, 0);
        }
        for (int t = 0; t < 16; t++) {
            x.addTest(t / 4, t % 4);
        }
        for (int round = 0; round < 2; round++) {
            for (int t = 0; t < 16; t++) {
                for (int f = 0; f < 12; f++) {
                    check.due("round " + round + ": requestFixture(" + t + ", " + f + ")",
                        x.requestFixture(t, f), round == 0);
                }
            }
        }
    }

    private static void closureHoldsTheRequest() {
        for (int f = 0; f < 12; f++) {
            FixtureEngineY x = new FixtureEngineY(12, 2);
            for (int n = 0; n < 12; n++) {
                x.defineFixture(0, 0);
            }
            x.addTest(0, 0);
            x.addTest(0, 0);
            x.requestFixture(1, f);
            x.run();
            for (int n = 0; n < 12; n++) {
                check.due("param of " + n + ", " + f + " being requested", Check.params(x, n),
                    n == f ? "-1 0" : "-1 -1");
            }
        }
    }

    private static void aDependencyMayBeRequestedToo() {
        FixtureEngineY x = new FixtureEngineY(2, 1);
        x.defineFixture(0, 0);
        x.defineFixture(0, 0);
        x.addDependency(1, 0);
        x.addTest(0, 0);
        check.due("requestFixture(0, 1)", x.requestFixture(0, 1), true);
        x.run();
        check.due("requestFixture(0, 0)", x.requestFixture(0, 0), true);
        check.due("requestFixture(0, 0) again", x.requestFixture(0, 0), false);
        x.run();
        check.due("events", Check.events(x), "100000 100010 200010 200000");
    }

    private static void falseChangesNothing() {
        FixtureEngineY x = new FixtureEngineY(3, 3);
        x.defineFixture(0, 2);
        x.defineFixture(3, 2);
        x.addTest(0, 0);
        x.addTest(0, 1);
        x.requestFixture(0, 0);
        x.requestFixture(1, 1);
        x.run();
        String before = Check.results(x);
        check.due("again: requestFixture(0, 0)", x.requestFixture(0, 0), false);
        check.due("undefined fixture: requestFixture(0, 2)", x.requestFixture(0, 2), false);
        check.due("undefined test: requestFixture(2, 0)", x.requestFixture(2, 0), false);
        check.due("a bit away: requestFixture(0, 32)", x.requestFixture(0, 32), false);
        check.due("a bit away: requestFixture(0, 33)", x.requestFixture(0, 33), false);
        check.due("results after refused calls", Check.results(x), before);
        x.run();
        check.due("a new run after refused calls", Check.results(x), before);
        x.defineFixture(0, 2);
        x.addTest(2, 2);
        check.due("run() with one test more", x.run(), 5);
    }

    private static void earlierResultsStay() {
        FixtureEngineY x = new FixtureEngineY(2, 2);
        x.defineFixture(0, 3);
        x.addTest(0, 0);
        x.run();
        String before = Check.results(x);
        check.due("requestFixture(0, 0)", x.requestFixture(0, 0), true);
        check.due("results after the call", Check.results(x), before);
        check.due("run()", x.run(), 3);
    }
}
