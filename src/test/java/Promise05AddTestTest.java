/** Promise 5: each test names the words of the document that it holds. */
public final class Promise05AddTestTest {
    private static final Check check = new Check();

    public static void main(String[] args) {
        moduleTooSmall();
        moduleTooLarge();
        everyModuleIsTaken();
        classTooSmall();
        classTooLarge();
        everyClassIsTaken();
        everyPairOfArguments();
        aFullEngine();
        aFullEngineWithWrongArguments();
        idsAreTheNumberDefinedBefore();
        moduleAndClassAreKept();
        noRequests();
        refusedCallsChangeNothing();
        aFullEngineIsNotChanged();
        earlierResultsAreNotChanged();
        check.finish();
    }

    /** "module not in 0..3: answers -1". */
    private static void moduleTooSmall() {
        for (int module : new int[] {-1, -2, -3, -4, -100, Integer.MIN_VALUE}) {
            refusedOnANewEngine(module, 0);
        }
    }

    /** "module not in 0..3: answers -1". */
    private static void moduleTooLarge() {
        for (int module : new int[] {4, 5, 7, 8, 16, 100, 1 << 16, 1 << 30, Integer.MAX_VALUE}) {
            refusedOnANewEngine(module, 0);
        }
    }

    private static void everyModuleIsTaken() {
        FixtureEngineY x = new FixtureEngineY(2, 4);
        for (int module = 0; module <= 3; module++) {
            check.due("addTest(" + module + ", 0)", x.addTest(module, 0), module);
        }
    }

    /** "cls not in 0..3: answers -1". */
    private static void classTooSmall() {
        for (int cls : new int[] {-1, -2, -3, -4, -100, Integer.MIN_VALUE}) {
            refusedOnANewEngine(0, cls);
            refusedOnANewEngine(3, cls);
        }
    }

    /** "cls not in 0..3: answers -1". */
    private static void classTooLarge() {
        for (int cls : new int[] {4, 5, 7, 8, 16, 100, 1 << 16, 1 << 30, Integer.MAX_VALUE}) {
            refusedOnANewEngine(0, cls);
            refusedOnANewEngine(3, cls);
        }
    }

    private static void everyClassIsTaken() {
        FixtureEngineY x = new FixtureEngineY(2, 4);
        for (int cls = 0; cls <= 3; cls++) {
            check.due("addTest(0, " + cls + ")", x.addTest(0, cls), cls);
        }
    }

    private static void refusedOnANewEngine(int module, int cls) {
        FixtureEngineY x = new FixtureEngineY(2, 1);
        String call = "addTest(" + module + ", " + cls + ")";
        check.due(call, x.addTest(module, cls), -1);
        check.due("after " + call + ", run()", x.run(), 0);
        check.due("after " + call + ", addTest(0, 0)", x.addTest(0, 0), 0);
    }

    private static void everyPairOfArguments() {
        for (int module : Check.ODD_INTS) {
            for (int cls : Check.ODD_INTS) {
                FixtureEngineY x = new FixtureEngineY(2, 2);
                boolean taken = module >= 0 && module <= 3 && cls >= 0 && cls <= 3;
                String call = "addTest(" + module + ", " + cls + ")";
                check.due(call, x.addTest(module, cls), taken ? 0 : -1);
                check.due("after " + call + ", run()", x.run(), taken ? 1 : 0);
                check.due("after " + call + ", addTest(0, 0)", x.addTest(0, 0), taken ? 1 : 0);
            }
        }
    }

    /** "testCap tests already defined: answers -1". */
    private static void aFullEngine() {
        for (int cap = 1; cap <= 16; cap++) {
            FixtureEngineY x = new FixtureEngineY(2, cap);
            for (int t = 0; t < cap; t++) {
                check.due("cap " + cap + ": test " + t, x.addTest(3, 3), t);
            }
            for (int n = 0; n < 3; n++) {
                check.due("cap " + cap + ": one more", x.addTest(n, n), -1);
            }
            check.due("cap " + cap + ": run()", x.run(), cap);
        }
    }

    private static void aFullEngineWithWrongArguments() {
        FixtureEngineY x = Scene.FULL.engine();
        for (int a : Check.ODD_INTS) {
            for (int b : Check.ODD_INTS) {
                check.due("full: addTest(" + a + ", " + b + ")", x.addTest(a, b), -1);
            }
        }
    }

    /** "answers its id (the number of tests defined before it)": refused calls don't count. */
    private static void idsAreTheNumberDefinedBefore() {
        FixtureEngineY x = new FixtureEngineY(2, 16);
        for (int t = 0; t < 16; t++) {
            check.due("wrong module before " + t, x.addTest(4, 0), -1);
            check.due("wrong class before " + t, x.addTest(0, -1), -1);
            check.due("test " + t, x.addTest(t % 4, t % 3), t);
            check.due("run()", x.run(), t + 1);
        }
    }

    /** "with that module and class": all sixteen pairs, added backwards, so that the order shows what was kept. */
    private static void moduleAndClassAreKept() {
        FixtureEngineY x = new FixtureEngineY(2, 16);
        for (int t = 0; t < 16; t++) {
            x.addTest((15 - t) / 4, (15 - t) % 4);
        }
        check.due("run()", x.run(), 16);
        check.due("tests", Check.tests(x), "15 14 13 12 11 10 9 8 7 6 5 4 3 2 1 0");
    }

    /** "no requested fixtures". */
    private static void noRequests() {
        FixtureEngineY x = new FixtureEngineY(12, 16);
        for (int f = 0; f < 12; f++) {
            x.defineFixture(0, 0);
        }
        x.addTest(0, 0);
        for (int f = 0; f < 12; f++) {
            x.requestFixture(0, f);
        }
        for (int t = 1; t < 16; t++) {
            x.addTest(0, 0);
        }
        x.run();
        for (int t = 1; t < 16; t++) {
            for (int f = 0; f < 12; f++) {
                check.due("itemParam(" + t + ", " + f + ")", x.itemParam(t, f), -1);
                check.due("requestFixture(" + t + ", " + f + ") is new", x.requestFixture(t, f), true);
            }
        }
    }

    /** "A refused call changes nothing." For each of the three checks. */
    private static void refusedCallsChangeNothing() {
        Probe.refused(check, "module: addTest(-1, 2)", Scene.RUN::engine, x -> x.addTest(-1, 2), -1);
        Probe.refused(check, "module: addTest(4, 2)", Scene.RUN::engine, x -> x.addTest(4, 2), -1);
        Probe.refused(check, "class: addTest(2, -1)", Scene.RUN::engine, x -> x.addTest(2, -1), -1);
        Probe.refused(check, "class: addTest(2, 4)", Scene.RUN::engine, x -> x.addTest(2, 4), -1);
        for (int module = 0; module <= 3; module++) {
            for (int cls = 0; cls <= 3; cls++) {
                int a = module;
                int b = cls;
                Probe.refused(check, "full: addTest(" + a + ", " + b + ")", Scene.FULL::engine,
                    x -> x.addTest(a, b), -1);
            }
        }
    }

    /** The same at the greatest capacity, where a seventeenth test would have no place at all. */
    private static void aFullEngineIsNotChanged() {
        for (int module = 0; module <= 3; module++) {
            for (int cls = 0; cls <= 3; cls++) {
                int a = module;
                int b = cls;
                Probe.refused(check, "sixteen: addTest(" + a + ", " + b + ")", Promise05AddTestTest::sixteenTests,
                    x -> x.addTest(a, b), -1);
            }
        }
    }

    private static FixtureEngineY sixteenTests() {
        FixtureEngineY x = new FixtureEngineY(3, 16);
        x.defineFixture(1, 2);
        x.defineFixture(2, 0);
        for (int t = 0; t < 16; t++) {
            x.addTest(t / 3 % 4, t % 4);
            x.requestFixture(t, t % 2);
        }
        x.run();
        return x;
    }

    /** "Results of earlier runs are not changed." */
    private static void earlierResultsAreNotChanged() {
        FixtureEngineY x = new FixtureEngineY(2, 3);
        x.defineFixture(0, 0);
        x.addTest(1, 0);
        x.requestFixture(0, 0);
        x.run();
        String before = Check.results(x);
        check.due("addTest(0, 0)", x.addTest(0, 0), 1);
        check.due("results after the call", Check.results(x), before);
        check.due("run()", x.run(), 2);
        check.due("tests", Check.tests(x), "1 0");
        check.due("the new test requests nothing", Check.params(x, 0), "-1 0");
    }
}
