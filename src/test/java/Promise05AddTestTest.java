public final class Promise05AddTestTest {
    private static final Check check = new Check();

    public static void main(String[] args) {
        everyPairOfArguments();
        idsCountUpToTheCap();
        moduleAndClassAreKept();
        refusedCallChangesNothing();
        earlierResultsStay();
        check.finish();
    }

    private static void everyPairOfArguments() {
        for (int module : Check.ODD_INTS) {
            for (int cls : Check.ODD_INTS) {
                FixtureEngineY x = new FixtureEngineY(2, 2);
                boolean taken = module >= 0 && module <= 3 && cls >= 0 && cls <= 3;
                String call = "addTest(" + module + ", " + cls + ")";
                check.due(call, x.addTest(module, cls), taken ? 0 : -1);
                check.due("after " + call + ", run()", x.run(), taken ? 1 : 0);
                check.due("after " + call + ", addTest(0, 0)", x.addTest(0, 0), taken ? 1 : 0);
            }
        }
    }

    private static void idsCountUpToTheCap() {
        FixtureEngineY x = new FixtureEngineY(2, 9);
        for (int t = 0; t < 9; t++) {
            check.due("test " + t, x.addTest(t % 4, t % 3), t);
            check.due("wrong class after " + t, x.addTest(0, 4), -1);
        }
        check.due("test over the cap", x.addTest(0, 0), -1);
        check.due("test over the cap again", x.addTest(3, 3), -1);
    }

    /** All sixteen pairs, added backwards: the order of the items shows what was kept. */
    private static void moduleAndClassAreKept() {
        FixtureEngineY x = new FixtureEngineY(2, 16);
        x.defineFixture(0, 0);
        for (int t = 0; t < 16; t++) {
            x.addTest((15 - t) / 4, (15 - t) % 4);
        }
        check.due("run()", x.run(), 16);
        check.due("tests", Check.tests(x), "15 14 13 12 11 10 9 8 7 6 5 4 3 2 1 0");
        check.due("no test has a request", x.eventCount(), 0);
        check.due("outcomes", Check.outcomes(x), "PPPPPPPPPPPPPPPP");
    }

    private static void refusedCallChangesNothing() {
        FixtureEngineY x = new FixtureEngineY(2, 2);
        x.defineFixture(2, 2);
        x.addTest(3, 1);
        x.addTest(2, 3);
        x.requestFixture(0, 0);
        x.requestFixture(1, 0);
        x.run();
        String before = Check.results(x);
        for (int a : Check.ODD_INTS) {
            check.due("full: addTest(" + a + ", 0)", x.addTest(a, 0), -1);
            check.due("full: addTest(0, " + a + ")", x.addTest(0, a), -1);
        }
        check.due("results after refused calls", Check.results(x), before);
        x.run();
        check.due("a new run after refused calls", Check.results(x), before);
    }

    private static void earlierResultsStay() {
        FixtureEngineY x = new FixtureEngineY(2, 3);
        x.defineFixture(0, 0);
        x.addTest(1, 0);
        x.requestFixture(0, 0);
        x.run();
        String before = Check.results(x);
        check.due("addTest(0, 0)", x.addTest(0, 0), 1);
        check.due("results after the call", Check.results(x), before);
        check.due("run()", x.run(), 2);
        check.due("tests", Check.tests(x), "1 0");
        check.due("the new test requests nothing", Check.params(x, 0), "-1 0");
    }
}
