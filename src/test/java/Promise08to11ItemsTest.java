/** Promises 8 to 11: each test names the words of the document that it holds. */
public final class Promise08to11ItemsTest {
    private static final Check check = new Check();

    public static void main(String[] args) {
        beforeAnyRun();
        itemCountFollowsTheRuns();
        itemTestTellsTheTest();
        itemTestOutsideTheItems();
        itemParamTellsEachCase();
        itemParamOutsideTheItems();
        itemParamOutsideTheFixtures();
        itemParamOfTheLastOfTwelve();
        itemParamOfFixturesDefinedAfterTheRun();
        itemOutcomeTellsEachCase();
        itemOutcomeOutsideTheItems();
        theMostItems();
        afterARunWithoutTests();
        afterARefusedRun();
        afterARefusedFirstRun();
        gettersChangeNothing();
        check.finish();
    }

    /** "0 before any such run", and nothing is "in 0..itemCount()-1": however much is defined. */
    private static void beforeAnyRun() {
        FixtureEngineY x = new FixtureEngineY(12, 16);
        for (int n = 0; n < 12; n++) {
            x.defineFixture(n % 4, n % 3);
            x.addTest(n % 4, 0);
            x.requestFixture(n, n);
            noItems(x);
        }
    }

    private static void noItems(FixtureEngineY x) {
        check.due("itemCount()", x.itemCount(), 0);
        for (int item : Check.ODD_INTS) {
            check.due("itemTest(" + item + ")", x.itemTest(item), -1);
            check.due("itemOutcome(" + item + ")", x.itemOutcome(item), -1);
            for (int f : Check.ODD_INTS) {
                check.due("itemParam(" + item + ", " + f + ")", x.itemParam(item, f), -1);
            }
        }
    }

    /** "the number of items of the last run that was not refused". */
    private static void itemCountFollowsTheRuns() {
        FixtureEngineY x = new FixtureEngineY(5, 3);
        x.addTest(0, 0);
        check.due("itemCount() before a run", x.itemCount(), 0);
        x.run();
        check.due("itemCount() after a run", x.itemCount(), 1);
        x.addTest(0, 0);
        x.defineFixture(0, 3);
        x.requestFixture(0, 0);
        check.due("itemCount() after definitions", x.itemCount(), 1);
        x.run();
        check.due("itemCount() after another run", x.itemCount(), 4);
        for (int f = 1; f < 5; f++) {
            x.defineFixture(0, 3);
            x.requestFixture(0, f);
        }
        check.due("run() of 244", x.run(), -1);
        check.due("itemCount() after a refused run", x.itemCount(), 4);
    }

    /** "the test id of item `item` of the current results". */
    private static void itemTestTellsTheTest() {
        FixtureEngineY x = new FixtureEngineY(2, 16);
        for (int t = 0; t < 16; t++) {
            x.addTest(3 - t / 4, 3 - t % 4);
        }
        x.run();
        for (int item = 0; item < 16; item++) {
            check.due("itemTest(" + item + ")", x.itemTest(item), 15 - item);
        }
    }

    /** "-1 if item is not in 0..itemCount()-1 (negative values and values at or above the count included)". */
    private static void itemTestOutsideTheItems() {
        FixtureEngineY x = threeItems();
        for (int item : Check.ODD_INTS) {
            int want = item == 0 ? 1 : item == 1 || item == 2 ? 0 : -1;
            check.due("itemTest(" + item + ")", x.itemTest(item), want);
        }
        for (int item = 3; item <= 300; item++) {
            check.due("itemTest(" + item + ")", x.itemTest(item), -1);
            check.due("itemTest(" + -item + ")", x.itemTest(-item), -1);
        }
    }

    /** "-1 when f is not in the closure ..., 0 when f is in it with pc(f) = 0, otherwise the value assigned to f". */
    private static void itemParamTellsEachCase() {
        FixtureEngineY x = threeItems();
        check.due("unparametrised, in the closure of test 0 as a dependency", Check.params(x, 0), "-1 0 0");
        check.due("parametrised, in the closure of test 0", Check.params(x, 1), "-1 0 1");
        check.due("unparametrised, in the closure of test 1", Check.params(x, 2), "0 -1 -1");
    }

    /** "It also answers -1 if item is not in 0..itemCount()-1". */
    private static void itemParamOutsideTheItems() {
        FixtureEngineY x = threeItems();
        for (int item : Check.ODD_INTS) {
            if (item < 0 || item > 2) {
                for (int f : Check.ODD_INTS) {
                    check.due("itemParam(" + item + ", " + f + ")", x.itemParam(item, f), -1);
                }
            }
        }
    }

    /** "or f is not in 0..(number of fixtures defined at that run)-1". */
    private static void itemParamOutsideTheFixtures() {
        FixtureEngineY x = threeItems();
        for (int f : Check.ODD_INTS) {
            if (f < 0 || f > 2) {
                for (int item = 0; item < 3; item++) {
                    check.due("itemParam(" + item + ", " + f + ")", x.itemParam(item, f), -1);
                }
            }
        }
        for (int f = 3; f <= 300; f++) {
            check.due("itemParam(1, " + f + ")", x.itemParam(1, f), -1);
            check.due("itemParam(1, " + -f + ")", x.itemParam(1, -f), -1);
        }
    }

    private static void itemParamOfTheLastOfTwelve() {
        FixtureEngineY x = new FixtureEngineY(12, 1);
        x.addTest(0, 0);
        for (int f = 0; f < 12; f++) {
            x.defineFixture(0, f == 11 ? 3 : f % 2);
            x.requestFixture(0, f);
        }
        x.run();
        for (int item = 0; item < 3; item++) {
            for (int f = 0; f < 11; f++) {
                check.due("itemParam(" + item + ", " + f + ")", x.itemParam(item, f), 0);
            }
            check.due("itemParam(" + item + ", 11)", x.itemParam(item, 11), item);
            for (int f : Check.ODD_INTS) {
                if (f < 0 || f > 11) {
                    check.due("itemParam(" + item + ", " + f + ")", x.itemParam(item, f), -1);
                }
            }
        }
    }

    /** "fixtures defined after that run answer -1": until the next run, whatever requests or depends on them. */
    private static void itemParamOfFixturesDefinedAfterTheRun() {
        FixtureEngineY x = threeItems();
        x.defineFixture(1, 0);
        x.requestFixture(0, 3);
        x.requestFixture(1, 3);
        check.due("before the next run", Check.params(x, 3), "-1 -1 -1");
        x.addDependency(3, 0);
        check.due("an older fixture that is in the closure only now", Check.params(x, 0), "-1 0 0");
        x.run();
        check.due("after the next run", Check.params(x, 3), "0 0 0");
        check.due("the older fixture", Check.params(x, 0), "0 0 0");
    }

    /** "OUTCOME_PASS or OUTCOME_ERROR of item `item`". */
    private static void itemOutcomeTellsEachCase() {
        FixtureEngineY x = threeItems();
        check.due("itemOutcome(0)", x.itemOutcome(0), 1);
        check.due("itemOutcome(1)", x.itemOutcome(1), 1);
        check.due("itemOutcome(2)", x.itemOutcome(2), 2);
        x.setFailure(1, 1, 0);
        check.due("itemOutcome(2) after the failure is cleared", x.itemOutcome(2), 2);
        x.run();
        check.due("itemOutcome(2) after the next run", x.itemOutcome(2), 1);
    }

    /** "-1 if item is not in 0..itemCount()-1". */
    private static void itemOutcomeOutsideTheItems() {
        FixtureEngineY x = threeItems();
        for (int item : Check.ODD_INTS) {
            if (item < 0 || item > 2) {
                check.due("itemOutcome(" + item + ")", x.itemOutcome(item), -1);
            }
        }
        for (int item = 3; item <= 300; item++) {
            check.due("itemOutcome(" + item + ")", x.itemOutcome(item), -1);
            check.due("itemOutcome(" + -item + ")", x.itemOutcome(-item), -1);
        }
    }

    /** The last of MAX_ITEMS items, and what is beside it. */
    private static void theMostItems() {
        FixtureEngineY x = new FixtureEngineY(2, 16);
        x.defineFixture(3, 2);
        x.defineFixture(3, 2);
        for (int t = 0; t < 16; t++) {
            x.addTest(0, 0);
            x.requestFixture(t, 0);
            x.requestFixture(t, 1);
        }
        x.setFailure(1, 1, 1);
        check.due("run()", x.run(), 64);
        check.due("itemCount()", x.itemCount(), 64);
        for (int item = 0; item < 64; item++) {
            check.due("itemTest(" + item + ")", x.itemTest(item), item / 4);
            check.due("itemParam(" + item + ", 0)", x.itemParam(item, 0), item / 2 % 2);
            check.due("itemParam(" + item + ", 1)", x.itemParam(item, 1), item % 2);
            check.due("itemOutcome(" + item + ")", x.itemOutcome(item), item == 1 ? 2 : 1);
        }
        for (int item : new int[] {-64, -1, 64, 65, 127, 128}) {
            check.due("itemTest(" + item + ")", x.itemTest(item), -1);
            check.due("itemParam(" + item + ", 0)", x.itemParam(item, 0), -1);
            check.due("itemOutcome(" + item + ")", x.itemOutcome(item), -1);
        }
    }

    private static void afterARunWithoutTests() {
        FixtureEngineY x = new FixtureEngineY(2, 2);
        x.defineFixture(0, 0);
        check.due("run() without tests", x.run(), 0);
        noItems(x);
        x.addTest(0, 0);
        x.requestFixture(0, 0);
        noItems(x);
    }

    /** "the last run that was not refused": all items are told as before the refused one. */
    private static void afterARefusedRun() {
        FixtureEngineY x = threeItems();
        x.defineFixture(3, 3);
        x.defineFixture(3, 3);
        x.defineFixture(3, 3);
        x.defineFixture(3, 3);
        for (int f = 3; f < 7; f++) {
            x.requestFixture(1, f);
        }
        x.setFailure(1, 1, 0);
        x.setFailure(0, 0, 1);
        check.due("run() of 83", x.run(), FixtureEngineY.RUN_TOO_MANY);
        check.due("itemCount()", x.itemCount(), 3);
        check.due("tests", Check.tests(x), "1 0 0");
        check.due("itemTest(3)", x.itemTest(3), -1);
        check.due("params of 0", Check.params(x, 0), "-1 0 0");
        check.due("params of 1", Check.params(x, 1), "-1 0 1");
        check.due("params of 2", Check.params(x, 2), "0 -1 -1");
        check.due("params of 3, which was defined before the refused run", Check.params(x, 3), "-1 -1 -1");
        check.due("itemParam(3, 1)", x.itemParam(3, 1), -1);
        check.due("outcomes", Check.outcomes(x), "PPE");
        check.due("itemOutcome(3)", x.itemOutcome(3), -1);
    }

    private static void afterARefusedFirstRun() {
        noItems(Scene.REFUSED_FIRST_RUN.engine());
    }

    /** "It changes nothing." Each getter by itself, with good and wrong arguments. */
    private static void gettersChangeNothing() {
        for (Scene scene : Scene.values()) {
            String untouched = Probe.of(scene.engine());
            FixtureEngineY x = scene.engine();
            check.due("itemCount() twice", x.itemCount(), x.itemCount());
            same(scene + ": itemCount()", x, untouched);
            x = scene.engine();
            for (int item : Check.ODD_INTS) {
                x.itemTest(item);
            }
            same(scene + ": itemTest", x, untouched);
            x = scene.engine();
            for (int item : Check.ODD_INTS) {
                for (int f : Check.ODD_INTS) {
                    x.itemParam(item, f);
                }
            }
            same(scene + ": itemParam", x, untouched);
            x = scene.engine();
            for (int item : Check.ODD_INTS) {
                x.itemOutcome(item);
            }
            same(scene + ": itemOutcome", x, untouched);
        }
        itemCountKeepsAnErrorOfTheFirstItem();
    }

    private static void itemCountKeepsAnErrorOfTheFirstItem() {
        FixtureEngineY x = new FixtureEngineY(2, 1);
        x.defineFixture(0, 0);
        x.setFailure(0, 0, 1);
        x.addTest(0, 0);
        x.requestFixture(0, 0);
        x.run();
        check.due("itemCount()", x.itemCount(), 1);
        check.due("itemOutcome(0)", x.itemOutcome(0), 2);
        check.due("itemCount()", x.itemCount(), 1);
        check.due("itemOutcome(0) again", x.itemOutcome(0), 2);
    }

    private static void same(String name, FixtureEngineY x, String untouched) {
        check.due(name + " changes nothing", Probe.of(x).equals(untouched), true);
    }

    /** Item 0 is of test 1; items 1 and 2 are of test 0, the last one being an error. */
    private static FixtureEngineY threeItems() {
        FixtureEngineY x = new FixtureEngineY(12, 2);
        x.defineFixture(1, 0);
        x.defineFixture(1, 2);
        x.defineFixture(3, 0);
        x.addDependency(1, 0);
        x.setFailure(1, 1, 1);
        x.addTest(1, 0);
        x.addTest(0, 0);
        x.requestFixture(0, 1);
        x.requestFixture(1, 2);
        check.due("run()", x.run(), 3);
        return x;
    }
}
