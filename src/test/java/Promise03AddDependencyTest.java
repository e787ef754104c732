/** Promise 3: each test names the words of the document that it holds. */
public final class Promise03AddDependencyTest {
    private static final Check check = new Check();

    public static void main(String[] args) {
        undefinedFixture();
        undefinedDependency();
        bothUndefined();
        itself();
        aLaterFixture();
        everyPairOfScopes();
        alreadyADependency();
        dependencyOfADependencyIsNotDirect();
        everyPairOfTwelve();
        becomesADirectDependency();
        closureFollowsAChainOfTwelve();
        falseChangesNothing();
        undefinedFixturesStayPlain();
        nothingElseChanges();
        earlierResultsAreNotChanged();
        check.finish();
    }

    /** "f not a defined fixture id: false". */
    private static void undefinedFixture() {
        FixtureEngineY x = fixturesOfOneScope(12, 5, 1);
        for (int f : Check.ODD_INTS) {
            if (f < 0 || f >= 5) {
                check.due("addDependency(" + f + ", 0)", x.addDependency(f, 0), false);
                check.due("addDependency(" + f + ", 4)", x.addDependency(f, 4), false);
            }
        }
        for (int f = 5; f <= 20; f++) {
            check.due("addDependency(" + f + ", 0)", x.addDependency(f, 0), false);
        }
        check.due("the last one: addDependency(4, 0)", x.addDependency(4, 0), true);
    }

    /** "dep not a defined fixture id: false". */
    private static void undefinedDependency() {
        FixtureEngineY x = fixturesOfOneScope(12, 5, 1);
        for (int dep : Check.ODD_INTS) {
            if (dep < 0 || dep >= 5) {
                check.due("addDependency(4, " + dep + ")", x.addDependency(4, dep), false);
                check.due("addDependency(0, " + dep + ")", x.addDependency(0, dep), false);
            }
        }
        for (int dep = 0; dep < 4; dep++) {
            check.due("addDependency(4, " + dep + ")", x.addDependency(4, dep), true);
        }
    }

    private static void bothUndefined() {
        FixtureEngineY x = fixturesOfOneScope(12, 5, 1);
        for (int f : Check.ODD_INTS) {
            for (int dep : Check.ODD_INTS) {
                if ((f < 0 || f >= 5) && (dep < 0 || dep >= 5)) {
                    check.due("addDependency(" + f + ", " + dep + ")", x.addDependency(f, dep), false);
                }
            }
        }
    }

    /** "dep >= f (including dep == f): false". */
    private static void itself() {
        for (int scope = 0; scope <= 3; scope++) {
            FixtureEngineY x = fixturesOfOneScope(12, 12, scope);
            for (int f = 0; f < 12; f++) {
                check.due("addDependency(" + f + ", " + f + ")", x.addDependency(f, f), false);
            }
        }
    }

    /** "dep >= f": a later one, of the same scope and of a broader one. */
    private static void aLaterFixture() {
        FixtureEngineY x = fixturesOfOneScope(12, 12, 2);
        for (int f = 0; f < 12; f++) {
            for (int dep = f + 1; dep < 12; dep++) {
                check.due("addDependency(" + f + ", " + dep + ")", x.addDependency(f, dep), false);
            }
        }
        x = new FixtureEngineY(2, 1);
        x.defineFixture(3, 0);
        x.defineFixture(0, 0);
        check.due("a broader one: addDependency(0, 1)", x.addDependency(0, 1), false);
    }

    /** "scope(dep) > scope(f), that is dep is narrower than f: false". */
    private static void everyPairOfScopes() {
        for (int scope = 0; scope <= 3; scope++) {
            for (int depScope = 0; depScope <= 3; depScope++) {
                FixtureEngineY x = new FixtureEngineY(2, 1);
                x.defineFixture(depScope, 0);
                x.defineFixture(scope, 0);
                check.due("scope " + scope + " on scope " + depScope, x.addDependency(1, 0), depScope <= scope);
            }
        }
    }

    /** "dep already a direct dependency of f: false". */
    private static void alreadyADependency() {
        FixtureEngineY x = fixturesOfOneScope(3, 3, 3);
        check.due("first addDependency(2, 1)", x.addDependency(2, 1), true);
        for (int n = 0; n < 3; n++) {
            check.due("addDependency(2, 1) again", x.addDependency(2, 1), false);
        }
        check.due("another one: addDependency(2, 0)", x.addDependency(2, 0), true);
        check.due("addDependency(2, 1) still", x.addDependency(2, 1), false);
        x.addTest(0, 0);
        x.requestFixture(0, 2);
        x.run();
        check.due("addDependency(2, 1) after a run", x.addDependency(2, 1), false);
    }

    /** "already a direct dependency": one that is only reached through another is not yet direct. */
    private static void dependencyOfADependencyIsNotDirect() {
        FixtureEngineY x = fixturesOfOneScope(3, 3, 0);
        check.due("addDependency(1, 0)", x.addDependency(1, 0), true);
        check.due("addDependency(2, 1)", x.addDependency(2, 1), true);
        check.due("addDependency(2, 0)", x.addDependency(2, 0), true);
        check.due("addDependency(2, 0) again", x.addDependency(2, 0), false);
    }

    private static void everyPairOfTwelve() {
        FixtureEngineY x = fixturesOfOneScope(12, 12, 2);
        for (int round = 0; round < 2; round++) {
            for (int f = 0; f < 12; f++) {
                for (int dep = 0; dep < 12; dep++) {
                    check.due("round " + round + ": addDependency(" + f + ", " + dep + ")",
                        x.addDependency(f, dep), round == 0 && dep < f);
                }
            }
        }
    }

    /** "dep becomes a direct dependency of f": for each pair of twelve, and for that pair alone. */
    private static void becomesADirectDependency() {
        for (int f = 1; f < 12; f++) {
            for (int dep = 0; dep < f; dep++) {
                FixtureEngineY x = fixturesOfOneScope(12, 12, 1);
                check.due("addDependency(" + f + ", " + dep + ")", x.addDependency(f, dep), true);
                for (int t = 0; t < 12; t++) {
                    x.addTest(0, 0);
                    x.requestFixture(t, t);
                }
                check.due("run()", x.run(), 12);
                for (int t = 0; t < 12; t++) {
                    for (int g = 0; g < 12; g++) {
                        int want = g == t || (t == f && g == dep) ? 0 : -1;
                        check.due("with " + f + " on " + dep + ": itemParam(" + t + ", " + g + ")",
                            x.itemParam(t, g), want);
                    }
                }
            }
        }
    }

    /** "every direct dependency of each of its members": the longest chain there can be. */
    private static void closureFollowsAChainOfTwelve() {
        FixtureEngineY x = fixturesOfOneScope(12, 12, 3);
        for (int f = 11; f > 0; f--) {
            x.addDependency(f, f - 1);
        }
        x.addTest(0, 0);
        x.addTest(0, 0);
        x.requestFixture(0, 11);
        x.requestFixture(1, 5);
        x.run();
        for (int f = 0; f < 12; f++) {
            check.due("params of " + f, Check.params(x, f), f <= 5 ? "0 0" : "0 -1");
        }
    }

    /** "a false answer changes nothing": for each of the five checks. */
    private static void falseChangesNothing() {
        Probe.refused(check, "f: addDependency(4, 0)", Scene.RUN::engine, x -> x.addDependency(4, 0), false);
        Probe.refused(check, "f: addDependency(-1, 0)", Scene.RUN::engine, x -> x.addDependency(-1, 0), false);
        Probe.refused(check, "f: addDependency(35, 0)", Scene.RUN::engine, x -> x.addDependency(35, 0), false);
        Probe.refused(check, "dep: addDependency(3, 4)", Scene.RUN::engine, x -> x.addDependency(3, 4), false);
        Probe.refused(check, "dep: addDependency(3, -1)", Scene.RUN::engine, x -> x.addDependency(3, -1), false);
        Probe.refused(check, "dep: addDependency(3, 32)", Scene.RUN::engine, x -> x.addDependency(3, 32), false);
        Probe.refused(check, "itself: addDependency(2, 2)", Scene.RUN::engine, x -> x.addDependency(2, 2), false);
        Probe.refused(check, "later: addDependency(0, 2)", Scene.RUN::engine, x -> x.addDependency(0, 2), false);
        Probe.refused(check, "later: addDependency(2, 3)", Scene.RUN::engine, x -> x.addDependency(2, 3), false);
        Probe.refused(check, "again: addDependency(3, 1)", Scene.RUN::engine, x -> x.addDependency(3, 1), false);
        Probe.refused(check, "again: addDependency(1, 0)", Scene.RUN::engine, x -> x.addDependency(1, 0), false);
        for (int f = 1; f < 4; f++) {
            for (int dep = 0; dep < f; dep++) {
                int a = f;
                int b = dep;
                Probe.refused(check, "narrower: addDependency(" + a + ", " + b + ")",
                    Promise03AddDependencyTest::everNarrowerBefore, x -> x.addDependency(a, b), false);
            }
        }
    }

    /** Four fixtures, each one broader than those before it. */
    private static FixtureEngineY everNarrowerBefore() {
        FixtureEngineY x = new FixtureEngineY(5, 5);
        for (int f = 0; f < 4; f++) {
            x.defineFixture(3 - f, 2);
            x.addTest(f, f);
            x.requestFixture(f, f);
        }
        x.run();
        return x;
    }

    private static void undefinedFixturesStayPlain() {
        FixtureEngineY x = fixturesOfOneScope(12, 2, 0);
        for (int f = 2; f < 12; f++) {
            check.due("addDependency(" + f + ", 1)", x.addDependency(f, 1), false);
        }
        x.addTest(0, 0);
        for (int f = 2; f < 12; f++) {
            x.defineFixture(0, 0);
            x.requestFixture(0, f);
        }
        x.run();
        check.due("param of 1", Check.params(x, 1), "-1");
    }

    /** "Nothing else changes": no test requests the dependency, and no other fixture gets it. */
    private static void nothingElseChanges() {
        FixtureEngineY x = fixturesOfOneScope(4, 4, 2);
        x.addTest(0, 0);
        x.addTest(0, 0);
        x.requestFixture(0, 3);
        x.requestFixture(1, 1);
        x.setFailure(3, 0, 1);
        check.due("addDependency(3, 2)", x.addDependency(3, 2), true);
        x.run();
        check.due("events", Check.events(x), "100020 300030 101010 201010 201020");
        check.due("requestFixture(0, 2)", x.requestFixture(0, 2), true);
        check.due("requestFixture(1, 2)", x.requestFixture(1, 2), true);
        check.due("addDependency(2, 1)", x.addDependency(2, 1), true);
        check.due("addDependency(3, 1)", x.addDependency(3, 1), true);
        check.due("next fixture", x.defineFixture(0, 0), -1);
        check.due("next test", x.addTest(0, 0), 2);
    }

    /** "Results of earlier runs are not changed." */
    private static void earlierResultsAreNotChanged() {
        FixtureEngineY x = new FixtureEngineY(2, 1);
        x.defineFixture(0, 2);
        x.defineFixture(0, 0);
        x.addTest(0, 0);
        x.requestFixture(0, 1);
        check.due("run()", x.run(), 1);
        String before = Check.results(x);
        check.due("addDependency(1, 0)", x.addDependency(1, 0), true);
        check.due("results after the call", Check.results(x), before);
        check.due("run() with the dependency", x.run(), 2);
    }

    private static FixtureEngineY fixturesOfOneScope(int cap, int fixtures, int scope) {
        FixtureEngineY x = new FixtureEngineY(cap, 16);
        for (int f = 0; f < fixtures; f++) {
            x.defineFixture(scope, 0);
        }
        return x;
    }
}
