public final class Promise07OrderingTest {
    private static final Check check = new Check();

    public static void main(String[] args) {
        moduleThenClassThenTest();
        sessionParamBeforeModule();
        moduleParamBetweenModuleAndClass();
        classParamBetweenClassAndTest();
        functionParamAfterTest();
        smallerFixtureIdFirst();
        outsideTheClosureFirst();
        scopeBeforeFixtureId();
        unparametrisedFixturesAreNoPartOfTheKey();
        check.finish();
    }

    private static void moduleThenClassThenTest() {
        FixtureEngineY x = new FixtureEngineY(2, 6);
        x.addTest(1, 0);
        x.addTest(0, 3);
        x.addTest(0, 0);
        x.addTest(3, 0);
        x.addTest(0, 3);
        x.addTest(1, 0);
        x.run();
        check.due("tests", Check.tests(x), "2 1 4 0 5 3");
    }

    private static void sessionParamBeforeModule() {
        FixtureEngineY x = twoTestsRequesting(0, 1, 0);
        check.due("tests", Check.tests(x), "1 0 1 0");
        check.due("params", Check.params(x, 0), "0 0 1 1");
    }

    private static void moduleParamBetweenModuleAndClass() {
        FixtureEngineY x = twoTestsRequesting(1, 1, 0);
        check.due("tests in two modules", Check.tests(x), "1 1 0 0");
        x = twoTestsRequesting(1, 0, 1);
        check.due("tests in two classes", Check.tests(x), "1 0 1 0");
        check.due("params", Check.params(x, 0), "0 0 1 1");
    }

    private static void classParamBetweenClassAndTest() {
        FixtureEngineY x = twoTestsRequesting(2, 0, 1);
        check.due("tests in two classes", Check.tests(x), "1 1 0 0");
        x = twoTestsRequesting(2, 0, 0);
        check.due("tests in one class", Check.tests(x), "0 1 0 1");
        check.due("params", Check.params(x, 0), "0 0 1 1");
    }

    private static void functionParamAfterTest() {
        FixtureEngineY x = twoTestsRequesting(3, 0, 0);
        check.due("tests", Check.tests(x), "0 0 1 1");
        check.due("params", Check.params(x, 0), "0 1 0 1");
    }

    /** Test 0 is in module (or class) 1 where asked, test 1 in 0; both request one fixture of two values. */
    private static FixtureEngineY twoTestsRequesting(int scope, int module, int cls) {
        FixtureEngineY x = new FixtureEngineY(2, 2);
        x.defineFixture(scope, 2);
        x.addTest(module, cls);
        x.addTest(0, 0);
        x.requestFixture(0, 0);
        x.requestFixture(1, 0);
        x.run();
        return x;
    }

    private static void smallerFixtureIdFirst() {
        for (int scope = 0; scope <= 3; scope++) {
            FixtureEngineY x = new FixtureEngineY(2, 1);
            x.defineFixture(scope, 3);
            x.defineFixture(scope, 2);
            x.addTest(0, 0);
            x.requestFixture(0, 1);
            x.requestFixture(0, 0);
            x.run();
            check.due("scope " + scope + ": params of 0", Check.params(x, 0), "0 0 1 1 2 2");
            check.due("scope " + scope + ": params of 1", Check.params(x, 1), "0 1 0 1 0 1");
        }
    }

    private static void outsideTheClosureFirst() {
        FixtureEngineY x = new FixtureEngineY(2, 3);
        x.defineFixture(0, 2);
        x.addTest(0, 0);
        x.addTest(3, 3);
        x.addTest(1, 0);
        x.requestFixture(0, 0);
        x.requestFixture(2, 0);
        x.run();
        check.due("tests", Check.tests(x), "1 0 2 0 2");
        check.due("params", Check.params(x, 0), "-1 0 0 1 1");
    }

    private static void scopeBeforeFixtureId() {
        FixtureEngineY x = new FixtureEngineY(4, 1);
        for (int f = 0; f < 4; f++) {
            x.defineFixture(3 - f, 2);
        }
        x.addTest(0, 0);
        for (int f = 0; f < 4; f++) {
            x.requestFixture(0, f);
        }
        check.due("run()", x.run(), 16);
        check.due("params of 3", Check.params(x, 3), "0 0 0 0 0 0 0 0 1 1 1 1 1 1 1 1");
        check.due("params of 2", Check.params(x, 2), "0 0 0 0 1 1 1 1 0 0 0 0 1 1 1 1");
        check.due("params of 1", Check.params(x, 1), "0 0 1 1 0 0 1 1 0 0 1 1 0 0 1 1");
        check.due("params of 0", Check.params(x, 0), "0 1 0 1 0 1 0 1 0 1 0 1 0 1 0 1");
    }

    private static void unparametrisedFixturesAreNoPartOfTheKey() {
        FixtureEngineY x = new FixtureEngineY(4, 3);
        for (int scope = 0; scope <= 3; scope++) {
            x.defineFixture(scope, 0);
        }
        for (int t = 0; t < 3; t++) {
            x.addTest(0, 0);
        }
        for (int f = 0; f < 4; f++) {
            x.requestFixture(0, f);
        }
        x.run();
        check.due("tests", Check.tests(x), "0 1 2");
    }
}
