public final class Promise02DefineFixtureTest {
    private static final Check check = new Check();

    public static void main(String[] args) {
        everyPairOfArguments();
        idsCountUpToTheCap();
        newFixtureIsPlain();
        scopeAndParamCountAreKept();
        refusedCallChangesNothing();
        othersAreNotChanged();
        check.finish();
    }

    private static void everyPairOfArguments() {
        for (int scope : Check.ODD_INTS) {
            for (int paramCount : Check.ODD_INTS) {
                FixtureEngineY x = new FixtureEngineY(2, 1);
                boolean taken = scope >= 0 && scope <= 3 && paramCount >= 0 && paramCount <= 3;
                String call = "defineFixture(" + scope + ", " + paramCount + ")";
                check.due(call, x.defineFixture(scope, paramCount), taken ? 0 : -1);
                check.due("after " + call + ", defineFixture(0, 0)", x.defineFixture(0, 0), taken ? 1 : 0);
            }
        }
    }

    private static void idsCountUpToTheCap() {
        FixtureEngineY x = new FixtureEngineY(7, 1);
        for (int f = 0; f < 7; f++) {
            check.due("fixture " + f, x.defineFixture(f % 4, f % 3), f);
            check.due("wrong scope after " + f, x.defineFixture(-1, 0), -1);
        }
        check.due("fixture over the cap", x.defineFixture(0, 0), -1);
        check.due("fixture over the cap again", x.defineFixture(3, 3), -1);
    }

    private static void newFixtureIsPlain() {
        FixtureEngineY x = new FixtureEngineY(3, 1);
        x.defineFixture(0, 0);
        x.defineFixture(3, 3);
        x.addTest(0, 0);
        x.requestFixture(0, 1);
        check.due("run()", x.run(), 3);
        check.due("no dependency: param of 0", Check.params(x, 0), "-1 -1 -1");
        check.due("nothing fails", Check.outcomes(x), "PPP");
    }

    private static void scopeAndParamCountAreKept() {
        for (int scope = 0; scope <= 3; scope++) {
            for (int paramCount = 0; paramCount <= 3; paramCount++) {
                FixtureEngineY x = new FixtureEngineY(4, 4);
                x.defineFixture(scope, paramCount);
                for (int t = 0; t < 4; t++) {
                    // Tests 0 and 1 share a class, 2 shares only the module, 3 stands alone.
                    x.addTest(t / 3, t / 2);
                    x.requestFixture(t, 0);
                }
                int values = Math.max(1, paramCount);
                int setups = new int[] {1, 2, 3, 4}[scope] * values;
                check.due("run() with scope " + scope + ", count " + paramCount, x.run(), 4 * values);
                check.due("events with scope " + scope + ", count " + paramCount, x.eventCount(), 2 * setups);
            }
        }
    }

    private static void refusedCallChangesNothing() {
        FixtureEngineY x = filled();
        String before = Check.results(x);
        for (int a : Check.ODD_INTS) {
            check.due("full: defineFixture(" + a + ", 0)", x.defineFixture(a, 0), -1);
            check.due("full: defineFixture(0, " + a + ")", x.defineFixture(0, a), -1);
        }
        check.due("results after refused calls", Check.results(x), before);
        x.run();
        check.due("a new run after refused calls", Check.results(x), before);
    }

    private static void othersAreNotChanged() {
        FixtureEngineY x = new FixtureEngineY(4, 2);
        fill(x);
        x.run();
        String before = Check.results(x);
        check.due("defineFixture(0, 2)", x.defineFixture(0, 2), 2);
        check.due("defineFixture(3, 0)", x.defineFixture(3, 0), 3);
        check.due("results after two more fixtures", Check.results(x), before);
        x.run();
        check.due("a new run, the new fixtures not being requested", Check.results(x), before);
    }

    private static FixtureEngineY filled() {
        FixtureEngineY x = new FixtureEngineY(2, 2);
        fill(x);
        x.run();
        return x;
    }

    private static void fill(FixtureEngineY x) {
        x.defineFixture(0, 3);
        x.defineFixture(2, 2);
        x.addDependency(1, 0);
        x.setFailure(1, 1, 1);
        x.addTest(1, 1);
        x.addTest(2, 0);
        x.requestFixture(0, 1);
        x.requestFixture(1, 0);
    }
}
