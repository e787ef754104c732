public final class Promise07ExecutionTest {
    private static final Check check = new Check();

    public static void main(String[] args) {
        sessionInstanceLastsToTheEnd();
        moduleInstanceLastsForTheModule();
        classInstanceLastsForTheClass();
        sameClassNumberInAnotherModule();
        functionInstanceLastsForTheItem();
        anotherParamEndsAnInstance();
        itemWithoutTheFixtureLeavesItAlive();
        setupInAscendingIdTeardownInDescendingStamp();
        dependantsEndWithTheirDependency();
        dependantsOfDependantsEndToo();
        failureEndsTheSetupPhase();
        failureLeavesEarlierFixturesAlive();
        failedAttemptIsTriedAgain();
        attemptsAreCountedPerParam();
        attemptsStartAtZeroInEachRun();
        teardownFollowsAFailedLastItem();
        check.finish();
    }

    private static void sessionInstanceLastsToTheEnd() {
        FixtureEngineY x = fourTests(0, 0);
        check.due("events", Check.events(x), "100000 203000");
    }

    private static void moduleInstanceLastsForTheModule() {
        FixtureEngineY x = fourTests(1, 0);
        check.due("events", Check.events(x), "100000 202000 103000 203000");
    }

    private static void classInstanceLastsForTheClass() {
        FixtureEngineY x = fourTests(2, 0);
        check.due("events", Check.events(x), "100000 201000 102000 202000 103000 203000");
    }

    private static void sameClassNumberInAnotherModule() {
        FixtureEngineY x = new FixtureEngineY(2, 2);
        x.defineFixture(2, 0);
        x.addTest(0, 1);
        x.addTest(1, 1);
        x.requestFixture(0, 0);
        x.requestFixture(1, 0);
        x.run();
        check.due("events", Check.events(x), "100000 200000 101000 201000");
    }

    private static void functionInstanceLastsForTheItem() {
        FixtureEngineY x = fourTests(3, 0);
        check.due("events", Check.events(x), "100000 200000 101000 201000 102000 202000 103000 203000");
    }

    private static void anotherParamEndsAnInstance() {
        FixtureEngineY x = fourTests(0, 2);
        check.due("events of a session fixture", Check.events(x), "100000 203000 104001 207001");
        x = fourTests(1, 2);
        check.due("events of a module fixture", Check.events(x),
            "100000 202000 103001 205001 106000 206000 107001 207001");
    }

    /** Tests 0 and 1 share a class, 2 only their module, 3 is in another one; all request fixture 0. */
    private static FixtureEngineY fourTests(int scope, int paramCount) {
        FixtureEngineY x = new FixtureEngineY(2, 4);
        x.defineFixture(scope, paramCount);
        x.addTest(0, 0);
        x.addTest(0, 0);
        x.addTest(0, 1);
        x.addTest(1, 0);
        for (int t = 0; t < 4; t++) {
            x.requestFixture(t, 0);
        }
        x.run();
        return x;
    }

    private static void itemWithoutTheFixtureLeavesItAlive() {
        FixtureEngineY x = new FixtureEngineY(2, 3);
        x.defineFixture(2, 0);
        x.defineFixture(0, 0);
        for (int t = 0; t < 3; t++) {
            x.addTest(0, 0);
        }
        x.requestFixture(0, 0);
        x.requestFixture(0, 1);
        x.requestFixture(2, 0);
        x.run();
        check.due("events", Check.events(x), "100000 100010 202010 202000");
    }

    private static void setupInAscendingIdTeardownInDescendingStamp() {
        FixtureEngineY x = new FixtureEngineY(4, 2);
        x.defineFixture(0, 0);
        x.defineFixture(1, 0);
        x.defineFixture(0, 0);
        x.defineFixture(3, 0);
        x.addTest(0, 0);
        x.addTest(0, 1);
        x.requestFixture(0, 3);
        x.requestFixture(0, 2);
        x.requestFixture(1, 3);
        x.requestFixture(1, 1);
        x.requestFixture(1, 0);
        x.run();
        check.due("events", Check.events(x), "100020 100030 200030 101000 101010 101030 201030 201010 201000 201020");
    }

    private static void dependantsEndWithTheirDependency() {
        FixtureEngineY x = new FixtureEngineY(3, 2);
        x.defineFixture(0, 2);
        x.defineFixture(0, 0);
        x.defineFixture(0, 0);
        x.addDependency(1, 0);
        x.addTest(0, 0);
        x.addTest(0, 1);
        x.requestFixture(0, 0);
        x.requestFixture(0, 1);
        x.requestFixture(0, 2);
        x.requestFixture(1, 0);
        x.run();
        check.due("tests", Check.tests(x), "0 1 0 1");
        check.due("events", Check.events(x), "100000 100010 100020 201010 201000 102001 102010 203010 203001 203020");
    }

    private static void dependantsOfDependantsEndToo() {
        FixtureEngineY x = new FixtureEngineY(5, 1);
        x.defineFixture(0, 2);
        x.defineFixture(0, 0);
        x.defineFixture(0, 0);
        x.defineFixture(1, 0);
        x.defineFixture(2, 0);
        x.addDependency(1, 0);
        x.addDependency(3, 1);
        x.addDependency(4, 2);
        x.addTest(0, 0);
        x.requestFixture(0, 3);
        x.requestFixture(0, 4);
        x.run();
        check.due("events", Check.events(x),
            "100000 100010 100020 100030 100040 200030 200010 200000"
            + " 101001 101010 101030 201030 201010 201001 201040 201020");
    }

    private static void failureEndsTheSetupPhase() {
        FixtureEngineY x = new FixtureEngineY(3, 2);
        for (int f = 0; f < 3; f++) {
            x.defineFixture(3, 0);
        }
        x.setFailure(1, 0, 1);
        x.setFailure(2, 0, 1);
        for (int t = 0; t < 2; t++) {
            x.addTest(0, 0);
            for (int f = 0; f < 3; f++) {
                x.requestFixture(t, f);
            }
        }
        x.run();
        check.due("outcomes", Check.outcomes(x), "EE");
        check.due("fixture 2 counts its first attempt in item 1", Check.events(x),
            "100000 300010 200000 101000 101010 301020 201010 201000");
    }

    private static void failureLeavesEarlierFixturesAlive() {
        FixtureEngineY x = new FixtureEngineY(3, 3);
        x.defineFixture(0, 0);
        x.defineFixture(2, 0);
        x.setFailure(1, 0, 2);
        x.addTest(0, 0);
        x.addTest(0, 1);
        x.addTest(0, 1);
        for (int t = 0; t < 3; t++) {
            x.requestFixture(t, 0);
            x.requestFixture(t, 1);
        }
        x.run();
        check.due("outcomes", Check.outcomes(x), "PEP");
        check.due("events", Check.events(x), "100000 100010 200010 301010 102010 202010 202000");
    }

    private static void failedAttemptIsTriedAgain() {
        FixtureEngineY x = new FixtureEngineY(2, 3);
        x.defineFixture(0, 0);
        x.setFailure(0, 0, 1);
        for (int t = 0; t < 3; t++) {
            x.addTest(0, 0);
            x.requestFixture(t, 0);
        }
        x.run();
        check.due("outcomes", Check.outcomes(x), "EPP");
        check.due("events", Check.events(x), "300000 101000 202000");
        x.setFailure(0, 0, 2);
        x.run();
        check.due("a reused instance counts no attempt", Check.events(x), "100000 202000");
    }

    private static void attemptsAreCountedPerParam() {
        FixtureEngineY x = new FixtureEngineY(2, 2);
        x.defineFixture(3, 2);
        x.setFailure(0, 1, 2);
        for (int t = 0; t < 2; t++) {
            x.addTest(0, 0);
            x.requestFixture(t, 0);
        }
        x.run();
        check.due("events", Check.events(x), "100000 200000 101001 201001 102000 202000 303001");
    }

    private static void attemptsStartAtZeroInEachRun() {
        FixtureEngineY x = new FixtureEngineY(2, 2);
        x.defineFixture(3, 0);
        x.setFailure(0, 0, 3);
        for (int t = 0; t < 2; t++) {
            x.addTest(0, 0);
            x.requestFixture(t, 0);
        }
        for (int round = 0; round < 3; round++) {
            x.run();
            check.due("round " + round, Check.outcomes(x), "PP");
        }
    }

    private static void teardownFollowsAFailedLastItem() {
        FixtureEngineY x = new FixtureEngineY(3, 1);
        x.defineFixture(0, 0);
        x.defineFixture(1, 0);
        x.defineFixture(3, 0);
        x.setFailure(2, 0, 1);
        x.addTest(0, 0);
        for (int f = 0; f < 3; f++) {
            x.requestFixture(0, f);
        }
        check.due("run()", x.run(), 1);
        check.due("events", Check.events(x), "100000 100010 300020 200010 200000");
        check.due("itemOutcome(0)", x.itemOutcome(0), FixtureEngineY.OUTCOME_ERROR);
    }
}
