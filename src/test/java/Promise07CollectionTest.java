/** Promise 7, Collection: each test names the words of the document that it holds. */
public final class Promise07CollectionTest {
    private static final Check check = new Check();

    public static void main(String[] args) {
        noTests();
        noTestsAfterNoTests();
        aTestWithoutRequests();
        aTestOfUnparametrisedFixtures();
        countOneGivesOneItem();
        oneItemForEachValue();
        oneItemForEachAssignment();
        dependenciesCountToo();
        sharedDependencyCountsOnce();
        fixturesOutsideTheClosureDoNotCount();
        paramOfAnItem();
        justBelowTheMostItems();
        theMostItemsOverSomeTests();
        theMostItemsOfOneTest();
        theMostItemsOverAllTests();
        oneItemTooMany();
        oneItemTooManyBeforeALargeTest();
        oneTestAloneIsTooMuch();
        theLargestRunIsRefused();
        aRefusedRunKeepsThePreviousResults();
        aRefusedFirstRun();
        aRefusedRunChangesNoDefinition();
        aRunReplacesThePreviousResults();
        theAnswerIsTheNumberOfItems();
        runUsesTheDefinitionsOfNow();
        runChangesNoDefinition();
        check.finish();
    }

    /** "With no tests defined, N = 0: the run is not refused, and afterwards there are 0 items and 0 events." */
    private static void noTests() {
        FixtureEngineY x = new FixtureEngineY(2, 1);
        check.due("run() of nothing", x.run(), 0);
        x.defineFixture(0, 3);
        x.defineFixture(0, 3);
        x.addDependency(1, 0);
        check.due("run() of fixtures alone", x.run(), 0);
        check.due("itemCount()", x.itemCount(), 0);
        check.due("eventCount()", x.eventCount(), 0);
        check.due("itemTest(0)", x.itemTest(0), -1);
        check.due("itemParam(0, 0)", x.itemParam(0, 0), -1);
        check.due("itemOutcome(0)", x.itemOutcome(0), -1);
        check.due("event(0)", x.event(0), -1);
    }

    private static void noTestsAfterNoTests() {
        FixtureEngineY x = new FixtureEngineY(12, 16);
        for (int f = 0; f < 12; f++) {
            x.defineFixture(0, 3);
            check.due("run() with " + f + " fixtures and no test", x.run(), 0);
        }
        x.addTest(0, 0);
        check.due("run() with the first test", x.run(), 1);
    }

    /** "exactly one item when P(t) is empty": the closure is empty. */
    private static void aTestWithoutRequests() {
        FixtureEngineY x = new FixtureEngineY(2, 2);
        x.defineFixture(0, 3);
        x.addTest(0, 0);
        check.due("run()", x.run(), 1);
        x.addTest(0, 0);
        check.due("run()", x.run(), 2);
        check.due("tests", Check.tests(x), "0 1");
        check.due("outcomes", Check.outcomes(x), "PP");
        check.due("params", Check.params(x, 0), "-1 -1");
        check.due("events", x.eventCount(), 0);
    }

    /** "exactly one item when P(t) is empty": the closure is not, but all of it has pc = 0. */
    private static void aTestOfUnparametrisedFixtures() {
        FixtureEngineY x = new FixtureEngineY(12, 1);
        x.addTest(0, 0);
        for (int f = 0; f < 12; f++) {
            x.defineFixture(f / 3, 0);
            x.requestFixture(0, f);
        }
        check.due("run()", x.run(), 1);
        for (int f = 0; f < 12; f++) {
            check.due("itemParam(0, " + f + ")", x.itemParam(0, f), 0);
        }
    }

    /** "a value in 0..pc(f)-1" with pc(f) = 1. */
    private static void countOneGivesOneItem() {
        FixtureEngineY x = new FixtureEngineY(12, 1);
        x.addTest(0, 0);
        for (int f = 0; f < 12; f++) {
            x.defineFixture(f / 3, 1);
            x.requestFixture(0, f);
        }
        check.due("run()", x.run(), 1);
        for (int f = 0; f < 12; f++) {
            check.due("itemParam(0, " + f + ")", x.itemParam(0, f), 0);
        }
    }

    /** "a value in 0..pc(f)-1". */
    private static void oneItemForEachValue() {
        String[] params = {"0", "0", "0 1", "0 1 2"};
        for (int scope = 0; scope <= 3; scope++) {
            for (int paramCount = 0; paramCount <= 3; paramCount++) {
                FixtureEngineY x = new FixtureEngineY(2, 1);
                x.defineFixture(scope, paramCount);
                x.addTest(0, 0);
                x.requestFixture(0, 0);
                check.due("run()", x.run(), Math.max(1, paramCount));
                check.due("params of a count of " + paramCount, Check.params(x, 0), params[paramCount]);
            }
        }
    }

    /** "one item for each way to assign every fixture f in P(t) a value". */
    private static void oneItemForEachAssignment() {
        FixtureEngineY x = new FixtureEngineY(4, 2);
        x.defineFixture(3, 2);
        x.defineFixture(3, 0);
        x.defineFixture(3, 3);
        x.defineFixture(3, 3);
        x.addTest(0, 0);
        x.requestFixture(0, 0);
        x.requestFixture(0, 1);
        x.requestFixture(0, 2);
        check.due("run()", x.run(), 6);
        check.due("params of 0", Check.params(x, 0), "0 0 0 1 1 1");
        check.due("params of 1", Check.params(x, 1), "0 0 0 0 0 0");
        check.due("params of 2", Check.params(x, 2), "0 1 2 0 1 2");
        check.due("params of 3", Check.params(x, 3), "-1 -1 -1 -1 -1 -1");
    }

    /** "the fixtures of its closure": also those that are reached through others alone. */
    private static void dependenciesCountToo() {
        FixtureEngineY x = new FixtureEngineY(4, 1);
        x.defineFixture(0, 3);
        x.defineFixture(0, 0);
        x.defineFixture(0, 2);
        x.defineFixture(0, 0);
        x.addDependency(1, 0);
        x.addDependency(2, 1);
        x.addDependency(3, 2);
        x.addTest(0, 0);
        x.requestFixture(0, 3);
        check.due("run()", x.run(), 6);
        check.due("params of 0", Check.params(x, 0), "0 0 1 1 2 2");
        check.due("params of 2", Check.params(x, 2), "0 1 0 1 0 1");
    }

    private static void sharedDependencyCountsOnce() {
        FixtureEngineY x = new FixtureEngineY(4, 1);
        x.defineFixture(0, 3);
        x.defineFixture(1, 0);
        x.defineFixture(2, 2);
        x.defineFixture(3, 0);
        x.addDependency(1, 0);
        x.addDependency(2, 0);
        x.addDependency(3, 1);
        x.addDependency(3, 2);
        x.addTest(0, 0);
        x.requestFixture(0, 3);
        check.due("run() of a diamond", x.run(), 6);
        x.requestFixture(0, 0);
        check.due("run() with the dependency requested too", x.run(), 6);
    }

    private static void fixturesOutsideTheClosureDoNotCount() {
        FixtureEngineY x = new FixtureEngineY(12, 1);
        for (int f = 0; f < 12; f++) {
            x.defineFixture(0, 3);
        }
        for (int f = 6; f < 12; f++) {
            x.addDependency(f, f - 1);
        }
        x.addTest(0, 0);
        x.requestFixture(0, 4);
        check.due("run()", x.run(), 3);
    }

    /** "-1 if f is not in its test's closure, 0 if f is in it and pc(f) = 0, and otherwise the assigned value". */
    private static void paramOfAnItem() {
        FixtureEngineY x = new FixtureEngineY(12, 2);
        for (int f = 0; f < 12; f++) {
            x.defineFixture(0, f == 11 ? 3 : 0);
        }
        x.addDependency(11, 10);
        x.addTest(0, 0);
        x.addTest(0, 0);
        x.requestFixture(1, 11);
        check.due("run()", x.run(), 4);
        check.due("params of 9", Check.params(x, 9), "-1 -1 -1 -1");
        check.due("params of 10", Check.params(x, 10), "-1 0 0 0");
        check.due("params of 11", Check.params(x, 11), "-1 0 1 2");
    }

    /** "If N > MAX_ITEMS": not with 63. */
    private static void justBelowTheMostItems() {
        FixtureEngineY x = testsOf(27, 27, 9);
        check.due("run() of 63", x.run(), 63);
        check.due("itemCount()", x.itemCount(), 63);
        check.due("itemTest(62)", x.itemTest(62) >= 0, true);
        check.due("itemTest(63)", x.itemTest(63), -1);
    }

    /** "If N > MAX_ITEMS": not with 64. */
    private static void theMostItemsOverSomeTests() {
        FixtureEngineY x = testsOf(27, 27, 9, 1);
        check.due("run() of 64", x.run(), 64);
        check.due("itemCount()", x.itemCount(), 64);
        check.due("itemTest(63)", x.itemTest(63) >= 0, true);
        check.due("itemTest(64)", x.itemTest(64), -1);
    }

    private static void theMostItemsOfOneTest() {
        FixtureEngineY x = sixBinaryFixtures();
        check.due("run() of 64", x.run(), 64);
        for (int i = 0; i < 64; i++) {
            for (int f = 0; f < 6; f++) {
                check.due("itemParam(" + i + ", " + f + ")", x.itemParam(i, f), i >> (5 - f) & 1);
            }
        }
    }

    private static void theMostItemsOverAllTests() {
        FixtureEngineY x = new FixtureEngineY(3, 16);
        x.defineFixture(3, 2);
        x.defineFixture(3, 2);
        x.defineFixture(3, 2);
        for (int t = 0; t < 16; t++) {
            x.addTest(0, 0);
            x.requestFixture(t, 0);
            x.requestFixture(t, 1);
        }
        check.due("run() of 16 * 4", x.run(), 64);
        check.due("the last item's test", x.itemTest(63), 15);
        x.requestFixture(7, 2);
        check.due("run() of 68", x.run(), FixtureEngineY.RUN_TOO_MANY);
    }

    /** "If N > MAX_ITEMS, the answer is RUN_TOO_MANY": with 65. */
    private static void oneItemTooMany() {
        FixtureEngineY x = testsOf(27, 27, 9, 1, 1);
        check.due("run() of 27 + 27 + 9 + 1 + 1", x.run(), -1);
        x = sixBinaryFixtures();
        x.addTest(0, 0);
        check.due("run() of 64 + 1", x.run(), -1);
    }

    private static void oneItemTooManyBeforeALargeTest() {
        FixtureEngineY x = testsOf(1, 1, 27, 9, 27);
        check.due("run() of 1 + 1 + 27 + 9 + 27", x.run(), -1);
    }

    private static void oneTestAloneIsTooMuch() {
        FixtureEngineY x = sixBinaryFixtures();
        x.defineFixture(0, 3);
        x.defineFixture(0, 1);
        x.requestFixture(0, 7);
        check.due("run() of 64 * 1", x.run(), 64);
        x.requestFixture(0, 6);
        check.due("run() of 64 * 3", x.run(), -1);
    }

    private static void theLargestRunIsRefused() {
        FixtureEngineY x = new FixtureEngineY(12, 16);
        for (int f = 0; f < 12; f++) {
            x.defineFixture(f % 4, 3);
        }
        for (int t = 0; t < 16; t++) {
            x.addTest(t / 4, t % 4);
            for (int f = 0; f < 12; f++) {
                x.requestFixture(t, f);
            }
        }
        check.due("run() of 16 * 3^12", x.run(), -1);
        check.due("itemCount()", x.itemCount(), 0);
    }

    /** "nothing changes: the previous results stay readable". */
    private static void aRefusedRunKeepsThePreviousResults() {
        FixtureEngineY x = testsOf(27, 27, 9, 1);
        x.setFailure(2, 1, 2);
        x.run();
        String before = Check.results(x);
        x.addTest(0, 0);
        x.setFailure(0, 0, 1);
        for (int round = 0; round < 3; round++) {
            check.due("run() of 65", x.run(), FixtureEngineY.RUN_TOO_MANY);
            check.due("results after a refused run", Check.results(x), before);
        }
    }

    /** "nothing changes": there are no results yet, and there are none after it. */
    private static void aRefusedFirstRun() {
        FixtureEngineY x = testsOf(27, 27, 9, 1, 1);
        String before = Check.results(x);
        check.due("run() of 65", x.run(), -1);
        check.due("itemCount()", x.itemCount(), 0);
        check.due("eventCount()", x.eventCount(), 0);
        check.due("results", Check.results(x), before);
    }

    private static void aRefusedRunChangesNoDefinition() {
        FixtureEngineY x = testsOf(27, 27, 9, 1, 1);
        x.run();
        check.due("requestFixture(0, 0)", x.requestFixture(0, 0), false);
        check.due("requestFixture(3, 0)", x.requestFixture(3, 0), true);
        check.due("addDependency(1, 0)", x.addDependency(1, 0), true);
        check.due("next fixture", x.defineFixture(0, 0), 3);
        check.due("next test", x.addTest(0, 0), 5);
    }

    /** "Otherwise the previous results are discarded and replaced by those of this run." */
    private static void aRunReplacesThePreviousResults() {
        FixtureEngineY x = new FixtureEngineY(2, 2);
        x.defineFixture(3, 2);
        x.addTest(1, 0);
        x.requestFixture(0, 0);
        x.run();
        check.due("events", Check.events(x), "100000 200000 101001 201001");
        x.addTest(0, 0);
        x.setFailure(0, 0, 1);
        x.setFailure(0, 1, 1);
        check.due("run()", x.run(), 3);
        check.due("tests", Check.tests(x), "1 0 0");
        check.due("params", Check.params(x, 0), "-1 0 1");
        check.due("outcomes", Check.outcomes(x), "PEE");
        check.due("eventCount()", x.eventCount(), 2);
        check.due("events", Check.events(x), "301000 302001");
    }

    /** "The answer is N." */
    private static void theAnswerIsTheNumberOfItems() {
        int[][] rows = {{1}, {3}, {9}, {27}, {1, 1}, {3, 1}, {27, 9, 3, 1}, {27, 27}, {9, 9, 9, 9}, {3, 3, 3}};
        int[] sums = {1, 3, 9, 27, 2, 4, 40, 54, 36, 9};
        for (int n = 0; n < rows.length; n++) {
            FixtureEngineY x = testsOf(rows[n]);
            check.due("run() of " + sums[n], x.run(), sums[n]);
            check.due("itemCount()", x.itemCount(), sums[n]);
        }
    }

    /** "using the definitions as they are at the moment of the call". */
    private static void runUsesTheDefinitionsOfNow() {
        FixtureEngineY x = new FixtureEngineY(3, 3);
        check.due("no tests", x.run(), 0);
        x.addTest(0, 0);
        check.due("one test", x.run(), 1);
        x.defineFixture(0, 2);
        check.due("a fixture not requested", x.run(), 1);
        x.requestFixture(0, 0);
        check.due("a fixture requested", x.run(), 2);
        x.defineFixture(0, 3);
        x.defineFixture(3, 0);
        x.addDependency(2, 1);
        x.requestFixture(0, 2);
        check.due("a dependency more", x.run(), 6);
        check.due("params of 1", Check.params(x, 1), "0 1 2 0 1 2");
        x.addTest(1, 0);
        check.due("a test more", x.run(), 7);
        check.due("its outcome", x.itemOutcome(0), FixtureEngineY.OUTCOME_PASS);
        check.due("its test sorts first", x.itemTest(0), 1);
    }

    /** "It never changes any definition." */
    private static void runChangesNoDefinition() {
        FixtureEngineY x = testsOf(27, 27, 9, 1);
        x.setFailure(2, 1, 2);
        x.setFailure(0, 0, 1);
        x.run();
        String first = Check.results(x);
        for (int round = 0; round < 3; round++) {
            x.run();
            check.due("the same run again", Check.results(x), first);
        }
        check.due("requestFixture(0, 0)", x.requestFixture(0, 0), false);
        check.due("requestFixture(3, 0)", x.requestFixture(3, 0), true);
        check.due("addDependency(2, 0)", x.addDependency(2, 0), true);
        check.due("next fixture", x.defineFixture(0, 0), 3);
        check.due("next test", x.addTest(0, 0), 4);
        check.due("run() twice and once are the same", Probe.of(runTimes(2)).equals(Probe.of(runTimes(1))), true);
    }

    private static FixtureEngineY runTimes(int times) {
        FixtureEngineY x = Scene.DEFINED.engine();
        for (int n = 0; n < times; n++) {
            x.run();
        }
        return x;
    }

    /** One test of 64 items. */
    private static FixtureEngineY sixBinaryFixtures() {
        FixtureEngineY x = new FixtureEngineY(12, 16);
        x.addTest(0, 0);
        for (int f = 0; f < 6; f++) {
            x.defineFixture(f / 2, 2);
            x.requestFixture(0, f);
        }
        return x;
    }

    /** A test for each number of items, which is a power of three up to 27. */
    private static FixtureEngineY testsOf(int... items) {
        FixtureEngineY x = new FixtureEngineY(12, 16);
        x.defineFixture(0, 3);
        x.defineFixture(1, 3);
        x.defineFixture(3, 3);
        for (int t = 0; t < items.length; t++) {
            x.addTest(t % 2, t % 4);
            int f = 0;
            for (int rest = items[t]; rest > 1; rest /= 3) {
                x.requestFixture(t, f);
                f++;
            }
        }
        return x;
    }
}
