/**
 * "Definitions may still be changed after a run; later runs use them, and changing them does not alter the results
 * already recorded."
 */
public final class LaterDefinitionsTest {
    private static final Check check = new Check();

    private static FixtureEngineY x;
    private static String recorded;

    public static void main(String[] args) {
        aLaterFixture();
        aLaterDependency();
        aLaterFailure();
        aLaterClearedFailure();
        aLaterTest();
        aLaterRequest();
        manyLaterDefinitions();
        laterDefinitionsThatMakeTheRunTooLarge();
        resultsAreStillReadAfterManyReads();
        check.finish();
    }

    private static void aLaterFixture() {
        start();
        check.due("defineFixture(0, 2)", x.defineFixture(0, 2), 3);
        stillRecorded("a fixture more");
        x.requestFixture(0, 3);
        stillRecorded("a request for it");
        check.due("run()", x.run(), 5);
        check.due("tests", Check.tests(x), "1 0 0 0 0");
        check.due("params of 3", Check.params(x, 3), "-1 0 0 1 1");
    }

    private static void aLaterDependency() {
        start();
        check.due("addDependency(2, 0)", x.addDependency(2, 0), true);
        stillRecorded("a dependency more");
        check.due("run()", x.run(), 3);
        check.due("params of 0", Check.params(x, 0), "0 0 0");
        check.due("events", Check.events(x), "100000 100010 200010 101011 201011 201000 102000 102020 202020 202000");
    }

    private static void aLaterFailure() {
        start();
        check.due("setFailure(1, 0, 1)", x.setFailure(1, 0, 1), true);
        stillRecorded("a failure more");
        check.due("run()", x.run(), 3);
        check.due("outcomes", Check.outcomes(x), "EPP");
        check.due("events", Check.events(x), "100000 300010 101011 201011 201000 102020 202020");
    }

    private static void aLaterClearedFailure() {
        start();
        x.setFailure(1, 1, 1);
        x.run();
        recorded = Check.results(x);
        check.due("setFailure(1, 1, 0)", x.setFailure(1, 1, 0), true);
        stillRecorded("a failure less");
        check.due("outcomes before the run", Check.outcomes(x), "PEP");
        check.due("run()", x.run(), 3);
        check.due("outcomes after the run", Check.outcomes(x), "PPP");
    }

    private static void aLaterTest() {
        start();
        check.due("addTest(0, 0)", x.addTest(0, 0), 2);
        stillRecorded("a test more");
        check.due("run()", x.run(), 4);
        check.due("tests", Check.tests(x), "2 0 0 1");
        check.due("outcomes", Check.outcomes(x), "PPPP");
    }

    private static void aLaterRequest() {
        start();
        check.due("requestFixture(1, 1)", x.requestFixture(1, 1), true);
        stillRecorded("a request more");
        check.due("run()", x.run(), 4);
        check.due("tests", Check.tests(x), "0 0 1 1");
        check.due("params of 0", Check.params(x, 0), "0 0 0 0");
    }

    private static void manyLaterDefinitions() {
        start();
        for (int n = 0; n < 40; n++) {
            x.defineFixture(n % 4, n % 4);
            x.addTest(n % 4, n / 4 % 4);
            for (int f = 0; f < 12; f++) {
                x.requestFixture(n, f);
                x.setFailure(f, n % 3, 1);
                x.addDependency(n, f);
            }
            stillRecorded(n + " times all definitions");
        }
    }

    private static void laterDefinitionsThatMakeTheRunTooLarge() {
        start();
        for (int f = 3; f < 7; f++) {
            x.defineFixture(0, 3);
            x.requestFixture(0, f);
        }
        stillRecorded("four fixtures more");
        check.due("run()", x.run(), FixtureEngineY.RUN_TOO_MANY);
        stillRecorded("a refused run");
        x.addTest(3, 3);
        x.setFailure(0, 0, 1);
        stillRecorded("definitions after the refused run");
    }

    private static void resultsAreStillReadAfterManyReads() {
        start();
        for (int n = 0; n < 10; n++) {
            stillRecorded(n + " reads");
        }
    }

    /** Items 0 and 1 are of test 0, which has 0 (by 1) and 1; item 2 is of test 1, which has 2. */
    private static void start() {
        x = new FixtureEngineY(12, 16);
        x.defineFixture(1, 0);
        x.defineFixture(2, 2);
        x.defineFixture(3, 0);
        x.addDependency(1, 0);
        x.addTest(0, 1);
        x.addTest(1, 0);
        x.requestFixture(0, 1);
        x.requestFixture(1, 2);
        check.due("run()", x.run(), 3);
        check.due("tests", Check.tests(x), "0 0 1");
        check.due("events", Check.events(x), "100000 100010 200010 101011 201011 201000 102020 202020");
        recorded = Check.results(x);
    }

    private static void stillRecorded(String after) {
        check.due("results after " + after, Check.results(x), recorded);
    }
}
