/** Promise 7, Ordering: each part of the key, and the order of the parts. */
public final class Promise07OrderingTest {
    private static final Check check = new Check();

    public static void main(String[] args) {
        moduleThenClassThenTest();
        sessionParamBeforeModule();
        moduleParamBetweenModuleAndClass();
        classParamBetweenClassAndTest();
        functionParamAfterTest();
        smallerFixtureIdFirst();
        smallerFixtureIdDecidesFirst();
        outsideTheClosureFirstInSessionScope();
        outsideTheClosureFirstInModuleScope();
        outsideTheClosureFirstInClassScope();
        outsideTheClosureInFunctionScope();
        outsideTheClosureDecidesInItsPlace();
        scopeBeforeFixtureId();
        unparametrisedFixturesAreNoPartOfTheKey();
        countOneIsPartOfTheKey();
        theLongestKey();
        everyPartOfTheLongestKey();
        indexIsThePositionInThisOrder();
        check.finish();
    }

    private static void moduleThenClassThenTest() {
        FixtureEngineY x = new FixtureEngineY(2, 6);
        x.addTest(1, 0);
        x.addTest(0, 3);
        x.addTest(0, 0);
        x.addTest(3, 0);
        x.addTest(0, 3);
        x.addTest(1, 0);
        x.run();
        check.due("tests", Check.tests(x), "2 1 4 0 5 3");
    }

    private static void sessionParamBeforeModule() {
        FixtureEngineY x = twoTestsRequesting(0, 1, 0);
        check.due("tests", Check.tests(x), "1 0 1 0");
        check.due("params", Check.params(x, 0), "0 0 1 1");
    }

    private static void moduleParamBetweenModuleAndClass() {
        FixtureEngineY x = twoTestsRequesting(1, 1, 0);
        check.due("tests in two modules", Check.tests(x), "1 1 0 0");
        x = twoTestsRequesting(1, 0, 1);
        check.due("tests in two classes", Check.tests(x), "1 0 1 0");
        check.due("params", Check.params(x, 0), "0 0 1 1");
    }

    private static void classParamBetweenClassAndTest() {
        FixtureEngineY x = twoTestsRequesting(2, 0, 1);
        check.due("tests in two classes", Check.tests(x), "1 1 0 0");
        x = twoTestsRequesting(2, 0, 0);
        check.due("tests in one class", Check.tests(x), "0 1 0 1");
        check.due("params", Check.params(x, 0), "0 0 1 1");
    }

    private static void functionParamAfterTest() {
        FixtureEngineY x = twoTestsRequesting(3, 0, 0);
        check.due("tests", Check.tests(x), "0 0 1 1");
        check.due("params", Check.params(x, 0), "0 1 0 1");
    }

    /** Test 0 is in module (or class) 1 where asked, test 1 in 0; both request one fixture of two values. */
    private static FixtureEngineY twoTestsRequesting(int scope, int module, int cls) {
        FixtureEngineY x = new FixtureEngineY(2, 2);
        x.defineFixture(scope, 2);
        x.addTest(module, cls);
        x.addTest(0, 0);
        x.requestFixture(0, 0);
        x.requestFixture(1, 0);
        x.run();
        return x;
    }

    private static void smallerFixtureIdFirst() {
        for (int scope = 0; scope <= 3; scope++) {
            FixtureEngineY x = new FixtureEngineY(2, 1);
            x.defineFixture(scope, 3);
            x.defineFixture(scope, 2);
            x.addTest(0, 0);
            x.requestFixture(0, 1);
            x.requestFixture(0, 0);
            x.run();
            check.due("scope " + scope + ": params of 0", Check.params(x, 0), "0 0 1 1 2 2");
            check.due("scope " + scope + ": params of 1", Check.params(x, 1), "0 1 0 1 0 1");
        }
    }

    /** "ascending f": the greater id decides only where the smaller one is equal. */
    private static void smallerFixtureIdDecidesFirst() {
        for (int scope = 0; scope <= 2; scope++) {
            FixtureEngineY x = new FixtureEngineY(2, 2);
            x.defineFixture(scope, 2);
            x.defineFixture(scope, 2);
            x.addTest(0, 0);
            x.addTest(0, 0);
            x.requestFixture(0, 0);
            x.requestFixture(1, 1);
            x.run();
            check.due("scope " + scope + ": tests", Check.tests(x), "1 1 0 0");
            check.due("scope " + scope + ": params of 0", Check.params(x, 0), "-1 -1 0 1");
            check.due("scope " + scope + ": params of 1", Check.params(x, 1), "0 1 -1 -1");
        }
    }

    /** "their param(f) is -1, which sorts first". */
    private static void outsideTheClosureFirstInSessionScope() {
        FixtureEngineY x = new FixtureEngineY(2, 3);
        x.defineFixture(0, 2);
        x.addTest(0, 0);
        x.addTest(3, 3);
        x.addTest(1, 0);
        x.requestFixture(0, 0);
        x.requestFixture(2, 0);
        x.run();
        check.due("tests", Check.tests(x), "1 0 2 0 2");
        check.due("params", Check.params(x, 0), "-1 0 0 1 1");
    }

    /** "their param(f) is -1, which sorts first": within a module, whatever the class. */
    private static void outsideTheClosureFirstInModuleScope() {
        check.due("the other class of the module", testsOfTheSecondOutside(1, 0, 3), "1 0 0");
        check.due("the same class", testsOfTheSecondOutside(1, 0, 0), "1 0 0");
        check.due("another module", testsOfTheSecondOutside(1, 1, 0), "0 0 1");
    }

    /** "their param(f) is -1, which sorts first": within a class. */
    private static void outsideTheClosureFirstInClassScope() {
        check.due("the same class", testsOfTheSecondOutside(2, 0, 0), "1 0 0");
        check.due("the next class", testsOfTheSecondOutside(2, 0, 1), "0 0 1");
        check.due("another module", testsOfTheSecondOutside(2, 1, 0), "0 0 1");
    }

    private static void outsideTheClosureInFunctionScope() {
        check.due("the test decides before", testsOfTheSecondOutside(3, 0, 0), "0 0 1");
    }

    /** Test 0, of class 0 in module 0, requests one fixture of two values; test 1 requests nothing. */
    private static String testsOfTheSecondOutside(int scope, int module, int cls) {
        FixtureEngineY x = new FixtureEngineY(2, 2);
        x.defineFixture(scope, 2);
        x.addTest(0, 0);
        x.addTest(module, cls);
        x.requestFixture(0, 0);
        x.run();
        return Check.tests(x);
    }

    /** -1 sorts before 0 in its own place of the key, not as a whole. */
    private static void outsideTheClosureDecidesInItsPlace() {
        for (int scope = 0; scope <= 2; scope++) {
            FixtureEngineY x = new FixtureEngineY(2, 2);
            x.defineFixture(scope, 2);
            x.defineFixture(scope, 2);
            x.addTest(0, 0);
            x.addTest(0, 0);
            x.requestFixture(0, 0);
            x.requestFixture(0, 1);
            x.requestFixture(1, 0);
            x.run();
            check.due("scope " + scope + ": tests", Check.tests(x), "1 0 0 1 0 0");
            check.due("scope " + scope + ": params of 1", Check.params(x, 1), "-1 0 1 -1 0 1");
        }
    }

    private static void scopeBeforeFixtureId() {
        FixtureEngineY x = new FixtureEngineY(4, 1);
        for (int f = 0; f < 4; f++) {
            x.defineFixture(3 - f, 2);
        }
        x.addTest(0, 0);
        for (int f = 0; f < 4; f++) {
            x.requestFixture(0, f);
        }
        check.due("run()", x.run(), 16);
        check.due("params of 3", Check.params(x, 3), "0 0 0 0 0 0 0 0 1 1 1 1 1 1 1 1");
        check.due("params of 2", Check.params(x, 2), "0 0 0 0 1 1 1 1 0 0 0 0 1 1 1 1");
        check.due("params of 1", Check.params(x, 1), "0 0 1 1 0 0 1 1 0 0 1 1 0 0 1 1");
        check.due("params of 0", Check.params(x, 0), "0 1 0 1 0 1 0 1 0 1 0 1 0 1 0 1");
    }

    private static void unparametrisedFixturesAreNoPartOfTheKey() {
        FixtureEngineY x = new FixtureEngineY(4, 3);
        for (int scope = 0; scope <= 3; scope++) {
            x.defineFixture(scope, 0);
        }
        for (int t = 0; t < 3; t++) {
            x.addTest(0, 0);
        }
        for (int f = 0; f < 4; f++) {
            x.requestFixture(0, f);
        }
        x.run();
        check.due("tests", Check.tests(x), "0 1 2");
    }

    /** "with pc >= 1": a fixture of one value stands in the key, where it tells who has it. */
    private static void countOneIsPartOfTheKey() {
        String[] want = {"1 0", "1 0", "1 0", "0 1"};
        for (int scope = 0; scope <= 3; scope++) {
            FixtureEngineY x = new FixtureEngineY(2, 2);
            x.defineFixture(scope, 1);
            x.addTest(0, 0);
            x.addTest(0, 0);
            x.requestFixture(0, 0);
            check.due("run()", x.run(), 2);
            check.due("scope " + scope + ": tests", Check.tests(x), want[scope]);
        }
    }

    /** Twelve parametrised fixtures: the first and the last of them have two values and decide. */
    private static void theLongestKey() {
        String[] want = {"1 0 1 0 1 0 1 0", "1 0 1 0 1 0 1 0", "0 1 0 1 0 1 0 1", "0 0 0 0 1 1 1 1"};
        String[] first = {"0 0 0 0 1 1 1 1", "0 0 0 0 1 1 1 1", "0 0 0 0 1 1 1 1", "0 0 1 1 0 0 1 1"};
        String[] last = {"0 0 1 1 0 0 1 1", "0 0 1 1 0 0 1 1", "0 0 1 1 0 0 1 1", "0 1 0 1 0 1 0 1"};
        int[][] secondTest = {{0, 0}, {3, 0}, {3, 3}, {3, 3}};
        for (int scope = 0; scope <= 3; scope++) {
            FixtureEngineY x = new FixtureEngineY(12, 2);
            x.addTest(3, 3);
            x.addTest(secondTest[scope][0], secondTest[scope][1]);
            for (int f = 0; f < 12; f++) {
                x.defineFixture(scope, f == 0 || f == 11 ? 2 : 1);
                x.requestFixture(0, f);
                x.requestFixture(1, f);
            }
            check.due("run()", x.run(), 8);
            check.due("scope " + scope + ": tests", Check.tests(x), want[scope]);
            check.due("scope " + scope + ": params of 0", Check.params(x, 0), first[scope]);
            check.due("scope " + scope + ": params of 11", Check.params(x, 11), last[scope]);
        }
    }

    /** Each test lacks one fixture of twelve: the smaller the lacking one, the further in front is the test. */
    private static void everyPartOfTheLongestKey() {
        for (int scope = 0; scope <= 2; scope++) {
            FixtureEngineY x = new FixtureEngineY(12, 13);
            for (int f = 0; f < 12; f++) {
                x.defineFixture(scope, 1);
            }
            for (int t = 0; t < 13; t++) {
                x.addTest(3, 3);
                for (int f = 0; f < 12; f++) {
                    if (f != 12 - t) {
                        x.requestFixture(t, f);
                    }
                }
            }
            check.due("run()", x.run(), 13);
            check.due("scope " + scope + ": tests", Check.tests(x), "12 11 10 9 8 7 6 5 4 3 2 1 0");
        }
    }

    /** "An item's index is its position 0..N-1 in this order": for its parameters, outcome and events too. */
    private static void indexIsThePositionInThisOrder() {
        FixtureEngineY x = new FixtureEngineY(2, 3);
        x.defineFixture(3, 2);
        x.addTest(2, 0);
        x.addTest(1, 0);
        x.addTest(0, 0);
        x.requestFixture(0, 0);
        x.requestFixture(1, 0);
        x.setFailure(0, 1, 2);
        x.run();
        check.due("tests", Check.tests(x), "2 1 1 0 0");
        check.due("params", Check.params(x, 0), "-1 0 1 0 1");
        check.due("outcomes", Check.outcomes(x), "PPPPE");
        check.due("events", Check.events(x), "101000 201000 102001 202001 103000 203000 304001");
    }
}
