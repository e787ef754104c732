public final class Promise08to11ItemsTest {
    private static final Check check = new Check();

    public static void main(String[] args) {
        itemCountFollowsTheRuns();
        itemTestKeepsToItsBounds();
        itemParamTellsEachCase();
        itemParamKeepsToItsBounds();
        fixturesDefinedAfterTheRun();
        itemOutcomeTellsEachCase();
        aRunWithoutTestsHasNoItems();
        gettersChangeNothing();
        check.finish();
    }

    private static void itemCountFollowsTheRuns() {
        FixtureEngineY x = new FixtureEngineY(5, 3);
        check.due("itemCount() before a run", x.itemCount(), 0);
        x.addTest(0, 0);
        check.due("itemCount() still before a run", x.itemCount(), 0);
        x.run();
        check.due("itemCount() after a run", x.itemCount(), 1);
        for (int f = 0; f < 4; f++) {
            x.defineFixture(0, 3);
            x.requestFixture(0, f);
        }
        check.due("run() of 81", x.run(), -1);
        check.due("itemCount() after a refused run", x.itemCount(), 1);
        x.addTest(0, 0);
        check.due("itemCount() after a definition", x.itemCount(), 1);
    }

    private static void itemTestKeepsToItsBounds() {
        FixtureEngineY x = threeItems();
        for (int item : Check.ODD_INTS) {
            int want = item == 0 ? 1 : item == 1 || item == 2 ? 0 : -1;
            check.due("itemTest(" + item + ")", x.itemTest(item), want);
        }
    }

    private static void itemParamTellsEachCase() {
        FixtureEngineY x = threeItems();
        check.due("unparametrised, in the closure of test 0 as a dependency", Check.params(x, 0), "-1 0 0");
        check.due("parametrised, in the closure of test 0", Check.params(x, 1), "-1 0 1");
        check.due("unparametrised, in the closure of test 1", Check.params(x, 2), "0 -1 -1");
    }

    private static void itemParamKeepsToItsBounds() {
        FixtureEngineY x = threeItems();
        for (int item : Check.ODD_INTS) {
            for (int f : Check.ODD_INTS) {
                if (item < 0 || item > 2 || f < 0 || f > 2) {
                    check.due("itemParam(" + item + ", " + f + ")", x.itemParam(item, f), -1);
                }
            }
        }
    }

    private static void fixturesDefinedAfterTheRun() {
        FixtureEngineY x = threeItems();
        x.defineFixture(0, 0);
        x.requestFixture(0, 3);
        x.requestFixture(1, 3);
        check.due("before the next run", Check.params(x, 3), "-1 -1 -1");
        x.run();
        check.due("after the next run", Check.params(x, 3), "0 0 0");
    }

    private static void itemOutcomeTellsEachCase() {
        FixtureEngineY x = threeItems();
        for (int item : Check.ODD_INTS) {
            int want = item == 0 || item == 1 ? 1 : item == 2 ? 2 : -1;
            check.due("itemOutcome(" + item + ")", x.itemOutcome(item), want);
        }
        x.setFailure(1, 1, 0);
        check.due("itemOutcome(2) after the failure is cleared", x.itemOutcome(2), 2);
        x.run();
        check.due("itemOutcome(2) after the next run", x.itemOutcome(2), 1);
    }

    private static void aRunWithoutTestsHasNoItems() {
        FixtureEngineY x = new FixtureEngineY(2, 2);
        check.due("run() without tests", x.run(), 0);
        check.due("itemTest(0)", x.itemTest(0), -1);
        check.due("itemOutcome(0)", x.itemOutcome(0), -1);
        x.defineFixture(0, 0);
        check.due("itemParam(0, 0)", x.itemParam(0, 0), -1);
    }

    private static void gettersChangeNothing() {
        FixtureEngineY x = threeItems();
        String before = Check.results(x);
        for (int a : Check.ODD_INTS) {
            x.itemTest(a);
            x.itemOutcome(a);
            x.event(a);
            x.itemCount();
            x.eventCount();
            for (int b : Check.ODD_INTS) {
                x.itemParam(a, b);
            }
        }
        check.due("results after many getters", Check.results(x), before);
        x.run();
        check.due("a new run after many getters", Check.results(x), before);
    }

    /** Item 0 is of test 1; items 1 and 2 are of test 0, the last one being an error. */
    private static FixtureEngineY threeItems() {
        FixtureEngineY x = new FixtureEngineY(4, 2);
        x.defineFixture(1, 0);
        x.defineFixture(1, 2);
        x.defineFixture(3, 0);
        x.addDependency(1, 0);
        x.setFailure(1, 1, 1);
        x.addTest(1, 0);
        x.addTest(0, 0);
        x.requestFixture(0, 1);
        x.requestFixture(1, 2);
        check.due("run()", x.run(), 3);
        return x;
    }
}
