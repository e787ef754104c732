public final class Promise07CollectionTest {
    private static final Check check = new Check();

    public static void main(String[] args) {
        noTests();
        testWithoutFixtures();
        oneItemForEachAssignment();
        sharedDependencyCountsOnce();
        countOneIsParametrised();
        mostItemsAreTaken();
        tooManyAreRefused();
        theLargestRunIsRefused();
        runUsesTheDefinitionsOfNow();
        runChangesNoDefinition();
        check.finish();
    }

    private static void noTests() {
        FixtureEngineY x = new FixtureEngineY(2, 1);
        check.due("run() of nothing", x.run(), 0);
        x.defineFixture(0, 3);
        check.due("run() without tests", x.run(), 0);
        check.due("itemCount()", x.itemCount(), 0);
        check.due("eventCount()", x.eventCount(), 0);
    }

    private static void testWithoutFixtures() {
        FixtureEngineY x = new FixtureEngineY(2, 2);
        x.defineFixture(0, 3);
        x.addTest(0, 0);
        x.addTest(0, 0);
        check.due("run()", x.run(), 2);
        check.due("outcomes", Check.outcomes(x), "PP");
        check.due("params", Check.params(x, 0), "-1 -1");
        check.due("events", x.eventCount(), 0);
    }

    private static void oneItemForEachAssignment() {
        FixtureEngineY x = new FixtureEngineY(4, 2);
        x.defineFixture(3, 2);
        x.defineFixture(3, 0);
        x.defineFixture(3, 3);
        x.defineFixture(3, 3);
        x.addTest(0, 0);
        x.requestFixture(0, 0);
        x.requestFixture(0, 1);
        x.requestFixture(0, 2);
        check.due("run()", x.run(), 6);
        check.due("params of 0", Check.params(x, 0), "0 0 0 1 1 1");
        check.due("params of 1", Check.params(x, 1), "0 0 0 0 0 0");
        check.due("params of 2", Check.params(x, 2), "0 1 2 0 1 2");
        check.due("params of 3", Check.params(x, 3), "-1 -1 -1 -1 -1 -1");
    }

    private static void sharedDependencyCountsOnce() {
        FixtureEngineY x = new FixtureEngineY(4, 1);
        x.defineFixture(0, 3);
        x.defineFixture(1, 0);
        x.defineFixture(2, 2);
        x.defineFixture(3, 0);
        x.addDependency(1, 0);
        x.addDependency(2, 0);
        x.addDependency(3, 1);
        x.addDependency(3, 2);
        x.addTest(0, 0);
        x.requestFixture(0, 3);
        check.due("run() of a diamond", x.run(), 6);
    }

    private static void countOneIsParametrised() {
        FixtureEngineY x = new FixtureEngineY(2, 2);
        x.defineFixture(0, 1);
        x.addTest(0, 0);
        x.addTest(0, 0);
        x.requestFixture(0, 0);
        check.due("run()", x.run(), 2);
        // Test 1 is outside: its -1 stands in the key before the test number.
        check.due("tests", Check.tests(x), "1 0");
        check.due("params", Check.params(x, 0), "-1 0");
    }

    private static void mostItemsAreTaken() {
        FixtureEngineY x = sixtyFourItems();
        check.due("run() of 64", x.run(), 64);
        check.due("itemCount()", x.itemCount(), 64);
        check.due("itemTest(63)", x.itemTest(63) >= 0, true);
        check.due("itemTest(64)", x.itemTest(64), -1);
    }

    private static void tooManyAreRefused() {
        FixtureEngineY x = sixtyFourItems();
        x.run();
        String before = Check.results(x);
        x.addTest(0, 0);
        for (int round = 0; round < 2; round++) {
            check.due("run() of 65", x.run(), FixtureEngineY.RUN_TOO_MANY);
            check.due("results after a refused run", Check.results(x), before);
        }
        FixtureEngineY first = sixtyFourItems();
        first.addTest(0, 0);
        check.due("run() of 65 as the first", first.run(), -1);
        check.due("itemCount()", first.itemCount(), 0);
        check.due("eventCount()", first.eventCount(), 0);
        check.due("itemTest(0)", first.itemTest(0), -1);
    }

    private static void theLargestRunIsRefused() {
        FixtureEngineY x = new FixtureEngineY(12, 16);
        for (int f = 0; f < 12; f++) {
            x.defineFixture(f % 4, 3);
        }
        for (int t = 0; t < 16; t++) {
            x.addTest(t / 4, t % 4);
            for (int f = 0; f < 12; f++) {
                x.requestFixture(t, f);
            }
        }
        check.due("run() of 16 * 3^12", x.run(), -1);
        check.due("itemCount()", x.itemCount(), 0);
    }

    private static void runUsesTheDefinitionsOfNow() {
        FixtureEngineY x = new FixtureEngineY(3, 3);
        check.due("no tests", x.run(), 0);
        x.addTest(0, 0);
        check.due("one test", x.run(), 1);
        x.defineFixture(0, 2);
        check.due("a fixture not requested", x.run(), 1);
        x.requestFixture(0, 0);
        check.due("a fixture requested", x.run(), 2);
        x.defineFixture(0, 3);
        x.defineFixture(3, 0);
        x.addDependency(2, 1);
        x.requestFixture(0, 2);
        check.due("a dependency more", x.run(), 6);
        check.due("params of 1", Check.params(x, 1), "0 1 2 0 1 2");
        x.addTest(1, 0);
        check.due("a test more", x.run(), 7);
        check.due("its outcome", x.itemOutcome(0), FixtureEngineY.OUTCOME_PASS);
        check.due("its test sorts first", x.itemTest(0), 1);
    }

    private static void runChangesNoDefinition() {
        FixtureEngineY x = sixtyFourItems();
        x.setFailure(2, 1, 2);
        x.setFailure(0, 0, 1);
        x.run();
        String first = Check.results(x);
        for (int round = 0; round < 3; round++) {
            x.run();
            check.due("the same run again", Check.results(x), first);
        }
        check.due("requestFixture(0, 0)", x.requestFixture(0, 0), false);
        check.due("next fixture", x.defineFixture(0, 0), 3);
        check.due("next test", x.addTest(0, 0), 4);
    }

    /** 27 + 27 + 9 + 1 items. */
    private static FixtureEngineY sixtyFourItems() {
        FixtureEngineY x = new FixtureEngineY(4, 5);
        x.defineFixture(0, 3);
        x.defineFixture(1, 3);
        x.defineFixture(3, 3);
        int[] requests = {3, 3, 2, 0};
        for (int t = 0; t < 4; t++) {
            x.addTest(t % 2, t);
            for (int f = 0; f < requests[t]; f++) {
                x.requestFixture(t, f);
            }
        }
        return x;
    }
}
