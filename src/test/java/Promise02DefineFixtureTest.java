/** Promise 2: each test names the words of the document that it holds. */
public final class Promise02DefineFixtureTest {
    private static final Check check = new Check();

    public static void main(String[] args) {
        scopeTooSmall();
        scopeTooLarge();
        everyScopeIsTaken();
        paramCountTooSmall();
        paramCountTooLarge();
        everyParamCountIsTaken();
        everyPairOfArguments();
        aFullEngine();
        aFullEngineWithWrongArguments();
        idsAreTheNumberDefinedBefore();
        scopeAndParamCountAreKept();
        noDependencies();
        noFailures();
        refusedCallsChangeNothing();
        aFullEngineIsNotChanged();
        testsOtherFixturesAndResultsAreNotChanged();
        check.finish();
    }

    /** "scope not in 0..3: answers -1". */
    private static void scopeTooSmall() {
        for (int scope : new int[] {-1, -2, -3, -4, -100, Integer.MIN_VALUE}) {
            refusedOnANewEngine(scope, 0);
        }
    }

    /** "scope not in 0..3: answers -1". */
    private static void scopeTooLarge() {
        for (int scope : new int[] {4, 5, 7, 8, 100, 1 << 16, 1 << 30, Integer.MAX_VALUE}) {
            refusedOnANewEngine(scope, 0);
        }
    }

    private static void everyScopeIsTaken() {
        FixtureEngineY x = new FixtureEngineY(4, 1);
        for (int scope = 0; scope <= 3; scope++) {
            check.due("defineFixture(" + scope + ", 0)", x.defineFixture(scope, 0), scope);
        }
    }

    /** "paramCount not in 0..3: answers -1". */
    private static void paramCountTooSmall() {
        for (int paramCount : new int[] {-1, -2, -3, -4, -100, Integer.MIN_VALUE}) {
            refusedOnANewEngine(0, paramCount);
            refusedOnANewEngine(3, paramCount);
        }
    }

    /** "paramCount not in 0..3: answers -1". */
    private static void paramCountTooLarge() {
        for (int paramCount : new int[] {4, 5, 7, 8, 100, 1 << 16, 1 << 30, Integer.MAX_VALUE}) {
            refusedOnANewEngine(0, paramCount);
            refusedOnANewEngine(3, paramCount);
        }
    }

    private static void everyParamCountIsTaken() {
        FixtureEngineY x = new FixtureEngineY(4, 1);
        for (int paramCount = 0; paramCount <= 3; paramCount++) {
            check.due("defineFixture(0, " + paramCount + ")", x.defineFixture(0, paramCount), paramCount);
        }
    }

    private static void refusedOnANewEngine(int scope, int paramCount) {
        FixtureEngineY x = new FixtureEngineY(2, 1);
        String call = "defineFixture(" + scope + ", " + paramCount + ")";
        check.due(call, x.defineFixture(scope, paramCount), -1);
        check.due("after " + call + ", requestFixture(0, 0)", x.addTest(0, 0) == 0 && x.requestFixture(0, 0), false);
        check.due("after " + call + ", defineFixture(0, 0)", x.defineFixture(0, 0), 0);
    }

    private static void everyPairOfArguments() {
        for (int scope : Check.ODD_INTS) {
            for (int paramCount : Check.ODD_INTS) {
                FixtureEngineY x = new FixtureEngineY(2, 1);
                boolean taken = scope >= 0 && scope <= 3 && paramCount >= 0 && paramCount <= 3;
                String call = "defineFixture(" + scope + ", " + paramCount + ")";
                check.due(call, x.defineFixture(scope, paramCount), taken ? 0 : -1);
                check.due("after " + call + ", defineFixture(0, 0)", x.defineFixture(0, 0), taken ? 1 : 0);
            }
        }
    }

    /** "fixtureCap fixtures already defined: answers -1". */
    private static void aFullEngine() {
        for (int cap = 2; cap <= 12; cap++) {
            FixtureEngineY x = new FixtureEngineY(cap, 1);
            for (int f = 0; f < cap; f++) {
                check.due("cap " + cap + ": fixture " + f, x.defineFixture(3, 3), f);
            }
            for (int n = 0; n < 3; n++) {
                check.due("cap " + cap + ": one more", x.defineFixture(n, n), -1);
            }
        }
    }

    private static void aFullEngineWithWrongArguments() {
        FixtureEngineY x = Scene.FULL.engine();
        for (int a : Check.ODD_INTS) {
            for (int b : Check.ODD_INTS) {
                check.due("full: defineFixture(" + a + ", " + b + ")", x.defineFixture(a, b), -1);
            }
        }
    }

    /** "answers its id (the number of fixtures defined before it)": refused calls don't count. */
    private static void idsAreTheNumberDefinedBefore() {
        FixtureEngineY x = new FixtureEngineY(12, 1);
        for (int f = 0; f < 12; f++) {
            check.due("wrong scope before " + f, x.defineFixture(-1, 0), -1);
            check.due("wrong count before " + f, x.defineFixture(0, 4), -1);
            check.due("fixture " + f, x.defineFixture(f % 4, f % 3), f);
            x.run();
        }
    }

    /** "defines the next fixture with that scope and parameter count". */
    private static void scopeAndParamCountAreKept() {
        for (int scope = 0; scope <= 3; scope++) {
            for (int paramCount = 0; paramCount <= 3; paramCount++) {
                FixtureEngineY x = new FixtureEngineY(4, 4);
                x.defineFixture(scope, paramCount);
                for (int t = 0; t < 4; t++) {
                    // Tests 0 and 1 share a class, 2 shares only the module, 3 stands alone.
                    x.addTest(t / 3, t / 2);
                    x.requestFixture(t, 0);
                }
                int values = Math.max(1, paramCount);
                int setups = new int[] {1, 2, 3, 4}[scope] * values;
                check.due("run() with scope " + scope + ", count " + paramCount, x.run(), 4 * values);
                check.due("events with scope " + scope + ", count " + paramCount, x.eventCount(), 2 * setups);
            }
        }
    }

    /** "no dependencies". */
    private static void noDependencies() {
        FixtureEngineY x = new FixtureEngineY(12, 1);
        x.addTest(0, 0);
        for (int f = 0; f < 12; f++) {
            x.defineFixture(3, 0);
        }
        x.requestFixture(0, 11);
        x.run();
        check.due("events", Check.events(x), "100110 200110");
        for (int f = 0; f < 12; f++) {
            for (int dep = 0; dep < f; dep++) {
                check.due("addDependency(" + f + ", " + dep + ") is new", x.addDependency(f, dep), true);
            }
        }
    }

    /** "all scripted failing attempt numbers 0". */
    private static void noFailures() {
        for (int f = 0; f < 12; f++) {
            FixtureEngineY x = new FixtureEngineY(12, 16);
            for (int n = 0; n <= f; n++) {
                x.defineFixture(3, 3);
            }
            for (int t = 0; t < 16; t++) {
                x.addTest(0, 0);
                x.requestFixture(t, f);
            }
            check.due("run()", x.run(), 48);
            check.due("16 attempts of each value of fixture " + f, Check.outcomes(x), "P".repeat(48));
        }
    }

    /** "A refused call changes nothing." For each of the three checks. */
    private static void refusedCallsChangeNothing() {
        Probe.refused(check, "scope: defineFixture(-1, 2)", Scene.RUN::engine, x -> x.defineFixture(-1, 2), -1);
        Probe.refused(check, "scope: defineFixture(4, 2)", Scene.RUN::engine, x -> x.defineFixture(4, 2), -1);
        Probe.refused(check, "count: defineFixture(2, -1)", Scene.RUN::engine, x -> x.defineFixture(2, -1), -1);
        Probe.refused(check, "count: defineFixture(2, 4)", Scene.RUN::engine, x -> x.defineFixture(2, 4), -1);
        for (int scope = 0; scope <= 3; scope++) {
            for (int paramCount = 0; paramCount <= 3; paramCount++) {
                int a = scope;
                int b = paramCount;
                Probe.refused(check, "full: defineFixture(" + a + ", " + b + ")", Scene.FULL::engine,
                    x -> x.defineFixture(a, b), -1);
            }
        }
    }

    /** The same at the greatest capacity, where a thirteenth fixture would have no place at all. */
    private static void aFullEngineIsNotChanged() {
        Probe.refused(check, "twelve: defineFixture(0, 1)", Promise02DefineFixtureTest::twelveFixtures,
            x -> x.defineFixture(0, 1), -1);
        Probe.refused(check, "twelve: defineFixture(3, 3)", Promise02DefineFixtureTest::twelveFixtures,
            x -> x.defineFixture(3, 3), -1);
    }

    private static FixtureEngineY twelveFixtures() {
        FixtureEngineY x = new FixtureEngineY(12, 2);
        x.addTest(1, 1);
        for (int f = 0; f < 12; f++) {
            x.defineFixture(f / 3, f % 5 == 0 ? 2 : 0);
            x.requestFixture(0, f);
        }
        x.addDependency(11, 0);
        x.setFailure(11, 0, 2);
        x.run();
        return x;
    }

    /** "Tests, other fixtures and the results of earlier runs are never changed." */
    private static void testsOtherFixturesAndResultsAreNotChanged() {
        FixtureEngineY x = Scene.RUN.engine();
        String before = Check.results(x);
        check.due("defineFixture(0, 2)", x.defineFixture(0, 2), 4);
        check.due("defineFixture(3, 0)", x.defineFixture(3, 0), 5);
        check.due("results after two more fixtures", Check.results(x), before);
        x.run();
        check.due("a new run, the new fixtures not being requested", Check.results(x), before);
        check.due("the dependency stands", x.addDependency(3, 2), false);
        check.due("the request stands", x.requestFixture(0, 3), false);
        check.due("next test", x.addTest(0, 0), 3);
    }
}
