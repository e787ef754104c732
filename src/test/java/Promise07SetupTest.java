/** Promise 7, Execution: every condition of the setup phase. */
public final class Promise07SetupTest {
    private static final Check check = new Check();

    public static void main(String[] args) {
        emptyClosurePasses();
        setupInAscendingId();
        anAliveInstanceIsReused();
        reuseCountsNoAttempt();
        attemptsAreCountedPerParam();
        onlyTheScriptedAttemptFails();
        failedAttemptIsTriedAgain();
        failureEndsTheSetupPhase();
        failureOfTheFirstFixture();
        failureOfTheLastFixture();
        failedFixtureIsNotAlive();
        failureLeavesEarlierFixturesAlive();
        itemsAfterAFailureAreNotTouched();
        attemptsStartAtZeroInEachRun();
        nothingIsAliveAtTheStartOfARun();
        check.finish();
    }

    /** "If every fixture of the closure was considered without a failure, item i's outcome is OUTCOME_PASS". */
    private static void emptyClosurePasses() {
        FixtureEngineY x = new FixtureEngineY(2, 2);
        x.defineFixture(0, 0);
        x.setFailure(0, 0, 1);
        x.addTest(0, 0);
        x.addTest(0, 0);
        x.run();
        check.due("outcomes", Check.outcomes(x), "PP");
        check.due("eventCount()", x.eventCount(), 0);
    }

    /** "in ascending id": whatever the order of requests, and whatever the scopes. */
    private static void setupInAscendingId() {
        FixtureEngineY x = new FixtureEngineY(4, 1);
        x.addTest(0, 0);
        for (int f = 0; f < 4; f++) {
            x.defineFixture(3 - f, 0);
        }
        for (int f = 3; f >= 0; f--) {
            x.requestFixture(0, f);
        }
        x.run();
        check.due("events", Check.events(x), "100000 100010 100020 100030 200030 200020 200010 200000");
    }

    /** "if f has an alive instance with parameter p, it is reused and nothing happens". */
    private static void anAliveInstanceIsReused() {
        FixtureEngineY x = new FixtureEngineY(2, 3);
        x.defineFixture(0, 0);
        x.defineFixture(2, 0);
        for (int t = 0; t < 3; t++) {
            x.addTest(0, 0);
            x.requestFixture(t, 0);
            x.requestFixture(t, 1);
        }
        x.run();
        check.due("events", Check.events(x), "100000 100010 202010 202000");
        check.due("outcomes", Check.outcomes(x), "PPP");
    }

    /** "it is reused and nothing happens": the second attempt is that of item 2, not the reuse in item 1. */
    private static void reuseCountsNoAttempt() {
        FixtureEngineY x = new FixtureEngineY(2, 4);
        x.defineFixture(2, 0);
        x.setFailure(0, 0, 2);
        for (int t = 0; t < 4; t++) {
            x.addTest(0, t / 2);
            x.requestFixture(t, 0);
        }
        x.run();
        check.due("outcomes", Check.outcomes(x), "PPEP");
        check.due("events", Check.events(x), "100000 201000 302000 103000 203000");
    }

    /** "the attempt counter of (f, p) grows by 1": each value has its own. */
    private static void attemptsAreCountedPerParam() {
        FixtureEngineY x = new FixtureEngineY(2, 2);
        x.defineFixture(3, 2);
        x.setFailure(0, 1, 2);
        for (int t = 0; t < 2; t++) {
            x.addTest(0, 0);
            x.requestFixture(t, 0);
        }
        x.run();
        check.due("events", Check.events(x), "100000 200000 101001 201001 102000 202000 303001");
    }

    /** "If it now equals the scripted failing attempt number": neither before nor after. */
    private static void onlyTheScriptedAttemptFails() {
        for (int attempt = 1; attempt <= 5; attempt++) {
            FixtureEngineY x = new FixtureEngineY(2, 5);
            x.defineFixture(3, 0);
            x.setFailure(0, 0, attempt);
            for (int t = 0; t < 5; t++) {
                x.addTest(0, 0);
                x.requestFixture(t, 0);
            }
            x.run();
            for (int i = 0; i < 5; i++) {
                check.due("attempt " + attempt + ": itemOutcome(" + i + ")",
                    x.itemOutcome(i), i + 1 == attempt ? 2 : 1);
            }
        }
    }

    /** "f stays without an alive instance": the next item tries it again. */
    private static void failedAttemptIsTriedAgain() {
        FixtureEngineY x = new FixtureEngineY(2, 3);
        x.defineFixture(0, 0);
        x.setFailure(0, 0, 1);
        for (int t = 0; t < 3; t++) {
            x.addTest(0, 0);
            x.requestFixture(t, 0);
        }
        x.run();
        check.due("outcomes", Check.outcomes(x), "EPP");
        check.due("events", Check.events(x), "300000 101000 202000");
        x.setFailure(0, 0, 2);
        x.run();
        check.due("a reused instance counts no attempt", Check.events(x), "100000 202000");
    }

    /** "later fixtures of the closure are not considered and count no attempt". */
    private static void failureEndsTheSetupPhase() {
        FixtureEngineY x = new FixtureEngineY(3, 2);
        for (int f = 0; f < 3; f++) {
            x.defineFixture(3, 0);
        }
        x.setFailure(1, 0, 1);
        x.setFailure(2, 0, 1);
        for (int t = 0; t < 2; t++) {
            x.addTest(0, 0);
            for (int f = 0; f < 3; f++) {
                x.requestFixture(t, f);
            }
        }
        x.run();
        check.due("outcomes", Check.outcomes(x), "EE");
        check.due("fixture 2 counts its first attempt in item 1", Check.events(x),
            "100000 300010 200000 101000 101010 301020 201010 201000");
    }

    /** "the phase ends at once": no fixture is set up at all. */
    private static void failureOfTheFirstFixture() {
        FixtureEngineY x = threeSessionFixtures(0);
        check.due("outcomes", Check.outcomes(x), "EP");
        check.due("events", Check.events(x), "300000 101000 101010 101020 201020 201010 201000");
    }

    /** "the phase ends at once": the item is an error although all other fixtures stand. */
    private static void failureOfTheLastFixture() {
        FixtureEngineY x = threeSessionFixtures(2);
        check.due("outcomes", Check.outcomes(x), "EP");
        check.due("events", Check.events(x), "100000 100010 300020 101020 201020 201010 201000");
    }

    /** Two tests request all three; the first attempt of one fixture fails. */
    private static FixtureEngineY threeSessionFixtures(int failing) {
        FixtureEngineY x = new FixtureEngineY(3, 2);
        for (int f = 0; f < 3; f++) {
            x.defineFixture(0, 0);
        }
        x.setFailure(failing, 0, 1);
        for (int t = 0; t < 2; t++) {
            x.addTest(0, 0);
            for (int f = 0; f < 3; f++) {
                x.requestFixture(t, f);
            }
        }
        x.run();
        return x;
    }

    /** "f stays without an alive instance": it is not torn down, not even after the last item. */
    private static void failedFixtureIsNotAlive() {
        for (int scope = 0; scope <= 3; scope++) {
            FixtureEngineY x = new FixtureEngineY(2, 1);
            x.defineFixture(scope, 0);
            x.setFailure(0, 0, 1);
            x.addTest(0, 0);
            x.requestFixture(0, 0);
            x.run();
            check.due("scope " + scope + ": events", Check.events(x), "300000");
        }
    }

    /** The phase ends, but what was set up before the failure is alive. */
    private static void failureLeavesEarlierFixturesAlive() {
        FixtureEngineY x = new FixtureEngineY(3, 3);
        x.defineFixture(0, 0);
        x.defineFixture(2, 0);
        x.setFailure(1, 0, 2);
        x.addTest(0, 0);
        x.addTest(0, 1);
        x.addTest(0, 1);
        for (int t = 0; t < 3; t++) {
            x.requestFixture(t, 0);
            x.requestFixture(t, 1);
        }
        x.run();
        check.due("outcomes", Check.outcomes(x), "PEP");
        check.due("events", Check.events(x), "100000 100010 200010 301010 102010 202010 202000");
    }

    /** A failure of one item is none of the next one, which reuses what the failed one set up. */
    private static void itemsAfterAFailureAreNotTouched() {
        FixtureEngineY x = new FixtureEngineY(3, 3);
        x.defineFixture(0, 0);
        x.defineFixture(3, 0);
        x.setFailure(1, 0, 1);
        for (int t = 0; t < 3; t++) {
            x.addTest(0, 0);
            x.requestFixture(t, 0);
        }
        x.requestFixture(0, 1);
        x.run();
        check.due("outcomes", Check.outcomes(x), "EPP");
        check.due("events", Check.events(x), "100000 300010 202000");
    }

    /** "All setup attempt counters of this run start at 0". */
    private static void attemptsStartAtZeroInEachRun() {
        FixtureEngineY x = new FixtureEngineY(2, 2);
        x.defineFixture(3, 0);
        x.setFailure(0, 0, 3);
        for (int t = 0; t < 2; t++) {
            x.addTest(0, 0);
            x.requestFixture(t, 0);
        }
        for (int round = 0; round < 3; round++) {
            x.run();
            check.due("round " + round, Check.outcomes(x), "PP");
        }
    }

    /** "no fixture has an alive instance": what the run before had alive is set up anew. */
    private static void nothingIsAliveAtTheStartOfARun() {
        FixtureEngineY x = new FixtureEngineY(4, 1);
        x.addTest(0, 0);
        for (int f = 0; f < 4; f++) {
            x.defineFixture(f, 0);
            x.requestFixture(0, f);
        }
        for (int round = 0; round < 3; round++) {
            x.run();
            check.due("round " + round, Check.events(x), "100000 100010 100020 100030 200030 200020 200010 200000");
        }
    }
}
