/** Promise 7, Execution: every condition of the teardown phase. */
public final class Promise07TeardownTest {
    private static final Check check = new Check();

    public static void main(String[] args) {
        sessionInstanceLastsToTheEnd();
        moduleInstanceLastsForTheModule();
        classInstanceLastsForTheClass();
        functionInstanceLastsForTheItem();
        sameClassNumberInAnotherModule();
        theOnlyItemIsTheLastOne();
        anotherParamEndsAnInstance();
        itemWithoutTheFixtureLeavesItAlive();
        anotherParamAfterAnItemWithoutTheFixture();
        teardownFollowsAFailedItem();
        teardownFollowsAFailedLastItem();
        dependantsEndWithTheirDependency();
        dependantsOfEveryScopeEnd();
        withoutADependencyNothingJoins();
        deadDependantsDoNotJoin();
        dependenciesOfAnEndingOneStay();
        dependantsOfDependantsEndToo();
        theLongestChainOfDependants();
        teardownInDescendingStamp();
        aNewInstanceHasANewStamp();
        check.finish();
    }

    /** "i = N-1": the only thing that ends an instance of the session here. */
    private static void sessionInstanceLastsToTheEnd() {
        FixtureEngineY x = fourTests(0, 0);
        check.due("events", Check.events(x), "100000 203000");
    }

    /** "scope(g) is MODULE and item i+1's test is not in the same module as item i's". */
    private static void moduleInstanceLastsForTheModule() {
        FixtureEngineY x = fourTests(1, 0);
        check.due("events", Check.events(x), "100000 202000 103000 203000");
    }

    /** "scope(g) is CLASS and item i+1's test is not in the same class as item i's". */
    private static void classInstanceLastsForTheClass() {
        FixtureEngineY x = fourTests(2, 0);
        check.due("events", Check.events(x), "100000 201000 102000 202000 103000 203000");
    }

    /** "scope(g) is FUNCTION". */
    private static void functionInstanceLastsForTheItem() {
        FixtureEngineY x = fourTests(3, 0);
        check.due("events", Check.events(x), "100000 200000 101000 201000 102000 202000 103000 203000");
    }

    /** "in the same class when their modules are equal and their classes are equal". */
    private static void sameClassNumberInAnotherModule() {
        FixtureEngineY x = new FixtureEngineY(2, 2);
        x.defineFixture(2, 0);
        x.addTest(0, 1);
        x.addTest(1, 1);
        x.requestFixture(0, 0);
        x.requestFixture(1, 0);
        x.run();
        check.due("events", Check.events(x), "100000 200000 101000 201000");
    }

    /** "i = N-1": the last item may be the first one too. */
    private static void theOnlyItemIsTheLastOne() {
        for (int scope = 0; scope <= 3; scope++) {
            FixtureEngineY x = new FixtureEngineY(2, 1);
            x.defineFixture(scope, 0);
            x.addTest(3, 3);
            x.requestFixture(0, 0);
            x.run();
            check.due("scope " + scope + ": events", Check.events(x), "100000 200000");
        }
    }

    /** "item i+1 has param(g) >= 0 and it differs from the instance's parameter". */
    private static void anotherParamEndsAnInstance() {
        check.due("events of a session fixture", Check.events(fourTests(0, 2)), "100000 203000 104001 207001");
        check.due("events of a module fixture", Check.events(fourTests(1, 2)),
            "100000 202000 103001 205001 106000 206000 107001 207001");
        check.due("events of a class fixture", Check.events(fourTests(2, 2)),
            "100000 201000 102001 203001 104000 204000 105001 205001 106000 206000 107001 207001");
        check.due("events of a function fixture", Check.events(fourTests(3, 2)),
            "100000 200000 101001 201001 102000 202000 103001 203001"
            + " 104000 204000 105001 205001 106000 206000 107001 207001");
        check.due("events of a session fixture of three", Check.events(fourTests(0, 3)),
            "100000 203000 104001 207001 108002 211002");
    }

    /** Tests 0 and 1 share a class, 2 only their module, 3 is in another one; all request fixture 0. */
    private static FixtureEngineY fourTests(int scope, int paramCount) {
        FixtureEngineY x = new FixtureEngineY(2, 4);
        x.defineFixture(scope, paramCount);
        x.addTest(0, 0);
        x.addTest(0, 0);
        x.addTest(0, 1);
        x.addTest(1, 0);
        for (int t = 0; t < 4; t++) {
            x.requestFixture(t, 0);
        }
        x.run();
        return x;
    }

    /** "item i+1 has param(g) >= 0": an item that has none of it doesn't end it. */
    private static void itemWithoutTheFixtureLeavesItAlive() {
        for (int scope = 0; scope <= 2; scope++) {
            FixtureEngineY x = new FixtureEngineY(2, 3);
            x.defineFixture(scope, 0);
            for (int t = 0; t < 3; t++) {
                x.addTest(0, 0);
            }
            x.requestFixture(0, 0);
            x.requestFixture(2, 0);
            x.run();
            check.due("scope " + scope + ": events", Check.events(x), "100000 202000");
        }
        FixtureEngineY x = new FixtureEngineY(2, 3);
        x.defineFixture(1, 0);
        x.addTest(0, 0);
        x.addTest(0, 2);
        x.addTest(1, 0);
        x.requestFixture(0, 0);
        x.run();
        check.due("a module fixture that no later item has", Check.events(x), "100000 201000");
    }

    /**
     * Both fixtures are of the session; test 1 has only fixture 0. After item 3, which is of test 1, the instance of
     * fixture 1 ends with its own parameter, because item 4 has another one.
     */
    private static void anotherParamAfterAnItemWithoutTheFixture() {
        FixtureEngineY x = new FixtureEngineY(2, 2);
        x.defineFixture(0, 2);
        x.defineFixture(0, 2);
        x.addTest(0, 0);
        x.addTest(0, 0);
        x.requestFixture(0, 0);
        x.requestFixture(0, 1);
        x.requestFixture(1, 0);
        x.run();
        check.due("tests", Check.tests(x), "1 0 0 1 0 0");
        check.due("events", Check.events(x),
            "100000 101010 201010 102011 202000 103001 203011 104010 204010 105011 205011 205001");
    }

    /** "it follows every item, whatever its outcome": with each condition after an item that failed. */
    private static void teardownFollowsAFailedItem() {
        FixtureEngineY x = new FixtureEngineY(5, 2);
        x.defineFixture(0, 0);
        x.defineFixture(1, 0);
        x.defineFixture(2, 0);
        x.defineFixture(3, 0);
        x.defineFixture(3, 0);
        x.setFailure(4, 0, 1);
        x.addTest(0, 0);
        x.addTest(1, 0);
        for (int f = 0; f < 5; f++) {
            x.requestFixture(0, f);
        }
        x.run();
        check.due("outcomes", Check.outcomes(x), "EP");
        check.due("events", Check.events(x), "100000 100010 100020 100030 300040 200030 200020 200010 201000");
        x = twoFixtures(0, 3);
        x.setFailure(1, 0, 1);
        x.run();
        check.due("another parameter after a failed item", Check.events(x),
            "100000 300010 200000 101001 101010 201010 201001");
    }

    /** "it follows every item, whatever its outcome": the last one too. */
    private static void teardownFollowsAFailedLastItem() {
        FixtureEngineY x = new FixtureEngineY(3, 1);
        x.defineFixture(0, 0);
        x.defineFixture(1, 0);
        x.defineFixture(3, 0);
        x.setFailure(2, 0, 1);
        x.addTest(0, 0);
        for (int f = 0; f < 3; f++) {
            x.requestFixture(0, f);
        }
        check.due("run()", x.run(), 1);
        check.due("events", Check.events(x), "100000 100010 300020 200010 200000");
        check.due("itemOutcome(0)", x.itemOutcome(0), FixtureEngineY.OUTCOME_ERROR);
    }

    /** Fixture 1, which item 1 does not have, ends after it with its dependency; fixture 2 stays. */
    private static void dependantsEndWithTheirDependency() {
        FixtureEngineY x = new FixtureEngineY(3, 2);
        x.defineFixture(0, 2);
        x.defineFixture(0, 0);
        x.defineFixture(0, 0);
        x.addDependency(1, 0);
        x.addTest(0, 0);
        x.addTest(0, 1);
        x.requestFixture(0, 0);
        x.requestFixture(0, 1);
        x.requestFixture(0, 2);
        x.requestFixture(1, 0);
        x.run();
        check.due("tests", Check.tests(x), "0 1 0 1");
        check.due("events", Check.events(x), "100000 100010 100020 201010 201000 102001 102010 203010 203001 203020");
    }

    /** "every fixture with an alive instance that has a direct dependency in T joins T". */
    private static void dependantsOfEveryScopeEnd() {
        for (int scope = 0; scope <= 3; scope++) {
            for (int depScope = 0; depScope <= scope; depScope++) {
                FixtureEngineY x = twoFixtures(depScope, scope);
                check.due("addDependency(1, 0)", x.addDependency(1, 0), true);
                x.run();
                check.due("scope " + scope + " on scope " + depScope, Check.events(x),
                    "100000 100010 200010 200000 101001 101010 201010 201001");
            }
        }
    }

    private static void withoutADependencyNothingJoins() {
        for (int scope = 0; scope <= 2; scope++) {
            for (int otherScope = 0; otherScope <= scope; otherScope++) {
                FixtureEngineY x = twoFixtures(otherScope, scope);
                x.run();
                check.due("scope " + scope + " beside scope " + otherScope, Check.events(x),
                    "100000 100010 200000 101001 201001 201010");
            }
        }
    }

    /** "every fixture with an alive instance": one whose setup failed has none. */
    private static void deadDependantsDoNotJoin() {
        FixtureEngineY x = twoFixtures(0, 0);
        x.addDependency(1, 0);
        x.setFailure(1, 0, 1);
        x.run();
        check.due("events", Check.events(x), "100000 300010 200000 101001 101010 201010 201001");
    }

    /** One test; fixture 0 has two values, fixture 1 none. */
    private static FixtureEngineY twoFixtures(int firstScope, int secondScope) {
        FixtureEngineY x = new FixtureEngineY(2, 1);
        x.defineFixture(firstScope, 2);
        x.defineFixture(secondScope, 0);
        x.addTest(0, 0);
        x.requestFixture(0, 0);
        x.requestFixture(0, 1);
        return x;
    }

    /** Only dependants join: what an ending fixture itself depends on stays. */
    private static void dependenciesOfAnEndingOneStay() {
        for (int scope = 0; scope <= 2; scope++) {
            FixtureEngineY x = new FixtureEngineY(2, 1);
            x.defineFixture(scope, 0);
            x.defineFixture(scope, 2);
            x.addDependency(1, 0);
            x.addTest(0, 0);
            x.requestFixture(0, 1);
            x.run();
            check.due("scope " + scope + ": events", Check.events(x),
                "100000 100010 200010 101011 201011 201000");
        }
    }

    /** "repeatedly until nothing changes"; the others stay. */
    private static void dependantsOfDependantsEndToo() {
        FixtureEngineY x = new FixtureEngineY(5, 1);
        x.defineFixture(0, 2);
        x.defineFixture(0, 0);
        x.defineFixture(0, 0);
        x.defineFixture(1, 0);
        x.defineFixture(2, 0);
        x.addDependency(1, 0);
        x.addDependency(3, 1);
        x.addDependency(4, 2);
        x.addTest(0, 0);
        x.requestFixture(0, 3);
        x.requestFixture(0, 4);
        x.run();
        check.due("events", Check.events(x),
            "100000 100010 100020 100030 100040 200030 200010 200000"
            + " 101001 101010 101030 201030 201010 201001 201040 201020");
    }

    /** "repeatedly until nothing changes": eleven times over. */
    private static void theLongestChainOfDependants() {
        FixtureEngineY x = new FixtureEngineY(12, 1);
        for (int f = 0; f < 12; f++) {
            x.defineFixture(0, f == 0 ? 2 : 0);
            x.addDependency(f, f - 1);
        }
        x.addTest(0, 0);
        x.requestFixture(0, 11);
        check.due("run()", x.run(), 2);
        StringBuilder want = new StringBuilder();
        for (int i = 0; i < 2; i++) {
            for (int f = 0; f < 12; f++) {
                want.append(100000 + i * 1000 + f * 10 + (f == 0 ? i : 0)).append(' ');
            }
            for (int f = 11; f >= 0; f--) {
                want.append(200000 + i * 1000 + f * 10 + (f == 0 ? i : 0)).append(' ');
            }
        }
        check.due("events", Check.events(x), want.toString().trim());
    }

    /** "in descending stamp order": the stamps tell when, not the ids. */
    private static void teardownInDescendingStamp() {
        FixtureEngineY x = new FixtureEngineY(4, 2);
        x.defineFixture(0, 0);
        x.defineFixture(1, 0);
        x.defineFixture(0, 0);
        x.defineFixture(3, 0);
        x.addTest(0, 0);
        x.addTest(0, 1);
        x.requestFixture(0, 3);
        x.requestFixture(0, 2);
        x.requestFixture(1, 3);
        x.requestFixture(1, 1);
        x.requestFixture(1, 0);
        x.run();
        check.due("events", Check.events(x), "100020 100030 200030 101000 101010 101030 201030 201010 201000 201020");
    }

    /** Fixture 0 is set up again in item 1, after fixture 1, and therefore ends before it. */
    private static void aNewInstanceHasANewStamp() {
        FixtureEngineY x = new FixtureEngineY(2, 2);
        x.defineFixture(2, 0);
        x.defineFixture(0, 0);
        for (int t = 0; t < 2; t++) {
            x.addTest(0, t);
            x.requestFixture(t, 0);
            x.requestFixture(t, 1);
        }
        x.run();
        check.due("events", Check.events(x), "100000 100010 200000 101000 201000 201010");
    }
}
