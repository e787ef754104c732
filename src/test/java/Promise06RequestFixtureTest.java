/** Promise 6: each test names the words of the document that it holds. */
public final class Promise06RequestFixtureTest {
    private static final Check check = new Check();

    public static void main(String[] args) {
        undefinedTest();
        undefinedFixture();
        bothUndefined();
        alreadyRequested();
        inTheClosureButNotRequested();
        everyPairOnce();
        isAddedToTheRequestsOfThatTest();
        falseChangesNothing();
        undefinedOnesStayPlain();
        nothingElseChanges();
        earlierResultsAreNotChanged();
        check.finish();
    }

    /** "t not a defined test: false". */
    private static void undefinedTest() {
        FixtureEngineY x = fixturesAndTests(12, 16, 2, 3);
        for (int t : Check.ODD_INTS) {
            if (t < 0 || t > 2) {
                check.due("requestFixture(" + t + ", 0)", x.requestFixture(t, 0), false);
                check.due("requestFixture(" + t + ", 1)", x.requestFixture(t, 1), false);
            }
        }
        for (int t = 3; t <= 40; t++) {
            check.due("requestFixture(" + t + ", 0)", x.requestFixture(t, 0), false);
        }
        check.due("the last one: requestFixture(2, 0)", x.requestFixture(2, 0), true);
        x = fixturesAndTests(12, 16, 2, 16);
        check.due("full: requestFixture(16, 0)", x.requestFixture(16, 0), false);
        check.due("full: requestFixture(15, 0)", x.requestFixture(15, 0), true);
    }

    /** "f not a defined fixture: false". */
    private static void undefinedFixture() {
        FixtureEngineY x = fixturesAndTests(12, 16, 2, 3);
        for (int f : Check.ODD_INTS) {
            if (f < 0 || f > 1) {
                check.due("requestFixture(0, " + f + ")", x.requestFixture(0, f), false);
                check.due("requestFixture(2, " + f + ")", x.requestFixture(2, f), false);
            }
        }
        for (int f = 2; f <= 40; f++) {
            check.due("requestFixture(0, " + f + ")", x.requestFixture(0, f), false);
        }
        check.due("the last one: requestFixture(0, 1)", x.requestFixture(0, 1), true);
        x = fixturesAndTests(12, 16, 12, 1);
        check.due("full: requestFixture(0, 12)", x.requestFixture(0, 12), false);
        check.due("full: requestFixture(0, 11)", x.requestFixture(0, 11), true);
    }

    private static void bothUndefined() {
        FixtureEngineY x = fixturesAndTests(12, 16, 2, 3);
        for (int t : Check.ODD_INTS) {
            for (int f : Check.ODD_INTS) {
                if ((t < 0 || t > 2) && (f < 0 || f > 1)) {
                    check.due("requestFixture(" + t + ", " + f + ")", x.requestFixture(t, f), false);
                }
            }
        }
    }

    /** "f already requested by t: false". */
    private static void alreadyRequested() {
        FixtureEngineY x = fixturesAndTests(2, 2, 2, 2);
        check.due("first requestFixture(0, 1)", x.requestFixture(0, 1), true);
        for (int n = 0; n < 3; n++) {
            check.due("requestFixture(0, 1) again", x.requestFixture(0, 1), false);
        }
        check.due("by another test: requestFixture(1, 1)", x.requestFixture(1, 1), true);
        check.due("another fixture: requestFixture(0, 0)", x.requestFixture(0, 0), true);
        check.due("requestFixture(0, 1) still", x.requestFixture(0, 1), false);
        x.run();
        check.due("requestFixture(0, 1) after a run", x.requestFixture(0, 1), false);
    }

    /** "already requested": a fixture that is only a dependency of a requested one is not yet requested. */
    private static void inTheClosureButNotRequested() {
        FixtureEngineY x = fixturesAndTests(2, 1, 2, 1);
        x.addDependency(1, 0);
        check.due("requestFixture(0, 1)", x.requestFixture(0, 1), true);
        x.run();
        check.due("requestFixture(0, 0)", x.requestFixture(0, 0), true);
        check.due("requestFixture(0, 0) again", x.requestFixture(0, 0), false);
        x.run();
        check.due("events", Check.events(x), "100000 100010 200010 200000");
    }

    private static void everyPairOnce() {
        FixtureEngineY x = fixturesAndTests(12, 16, 12, 16);
        for (int round = 0; round < 2; round++) {
            for (int t = 0; t < 16; t++) {
                for (int f = 0; f < 12; f++) {
                    check.due("round " + round + ": requestFixture(" + t + ", " + f + ")",
                        x.requestFixture(t, f), round == 0);
                }
            }
        }
    }

    /** "f is added to the requested set of t": each pair of them, and that pair alone. */
    private static void isAddedToTheRequestsOfThatTest() {
        for (int t = 0; t < 16; t++) {
            for (int f = 0; f < 12; f++) {
                FixtureEngineY x = fixturesAndTests(12, 16, 12, 16);
                x.requestFixture(t, f);
                x.run();
                String event = t * 1000 + f * 10 + 100000 + " " + (15000 + f * 10 + 200000);
                check.due("events with requestFixture(" + t + ", " + f + ")", Check.events(x), event);
                for (int u = 0; u < 16; u++) {
                    for (int g = 0; g < 12; g++) {
                        check.due("itemParam(" + u + ", " + g + ")", x.itemParam(u, g), u == t && g == f ? 0 : -1);
                    }
                }
            }
        }
    }

    /** "a false answer changes nothing": for each of the three checks. */
    private static void falseChangesNothing() {
        for (int t : new int[] {-1, 3, 4, 16, 32, Integer.MIN_VALUE, Integer.MAX_VALUE}) {
            for (int f = 0; f < 4; f++) {
                falseChangesNothing(t, f);
            }
        }
        for (int f : new int[] {-1, 4, 5, 12, 32, 33, 34, 35, Integer.MIN_VALUE, Integer.MAX_VALUE}) {
            for (int t = 0; t < 3; t++) {
                falseChangesNothing(t, f);
            }
        }
        falseChangesNothing(0, 3);
        falseChangesNothing(1, 1);
        falseChangesNothing(2, 2);
    }

    private static void falseChangesNothing(int t, int f) {
        Probe.refused(check, "requestFixture(" + t + ", " + f + ")", Scene.RUN::engine,
            x -> x.requestFixture(t, f), false);
    }

    private static void undefinedOnesStayPlain() {
        FixtureEngineY x = new FixtureEngineY(3, 3);
        for (int n = 0; n < 3; n++) {
            for (int m = 0; m < 3; m++) {
                check.due("requestFixture(" + n + ", " + m + ")", x.requestFixture(n, m), false);
            }
        }
        x.defineFixture(0, 0);
        x.addTest(0, 0);
        for (int n = 1; n < 3; n++) {
            check.due("requestFixture(0, " + n + ")", x.requestFixture(0, n), false);
            check.due("requestFixture(" + n + ", 0)", x.requestFixture(n, 0), false);
        }
        for (int n = 1; n < 3; n++) {
            x.defineFixture(0, 0);
            x.addTest(0, 0);
        }
        x.run();
        check.due("no test requests anything", x.eventCount(), 0);
    }

    /** "Nothing else changes": no dependency, no other test, no other fixture. */
    private static void nothingElseChanges() {
        FixtureEngineY x = fixturesAndTests(3, 3, 3, 2);
        x.addDependency(2, 0);
        check.due("requestFixture(1, 2)", x.requestFixture(1, 2), true);
        check.due("addDependency(2, 1)", x.addDependency(2, 1), true);
        check.due("addDependency(2, 0)", x.addDependency(2, 0), false);
        check.due("requestFixture(1, 0)", x.requestFixture(1, 0), true);
        check.due("requestFixture(0, 2)", x.requestFixture(0, 2), true);
        check.due("next fixture", x.defineFixture(0, 0), -1);
        check.due("next test", x.addTest(0, 0), 2);
    }

    /** "Results of earlier runs are not changed." */
    private static void earlierResultsAreNotChanged() {
        FixtureEngineY x = new FixtureEngineY(2, 2);
        x.defineFixture(0, 3);
        x.addTest(0, 0);
        x.run();
        String before = Check.results(x);
        check.due("requestFixture(0, 0)", x.requestFixture(0, 0), true);
        check.due("results after the call", Check.results(x), before);
        check.due("run()", x.run(), 3);
    }

    /** Session fixtures without parameters, and tests of one class. */
    private static FixtureEngineY fixturesAndTests(int fixtureCap, int testCap, int fixtures, int tests) {
        FixtureEngineY x = new FixtureEngineY(fixtureCap, testCap);
        for (int f = 0; f < fixtures; f++) {
            x.defineFixture(0, 0);
        }
        for (int t = 0; t < tests; t++) {
            x.addTest(0, 0);
        }
        return x;
    }
}
