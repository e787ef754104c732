public final class Promise01ConstructionTest {
    private static final Check check = new Check();

    public static void main(String[] args) {
        for (int cap : Check.ODD_INTS) {
            fixtureCapIsClamped(cap, Math.max(2, Math.min(12, cap)));
            testCapIsClamped(cap, Math.max(1, Math.min(16, cap)));
        }
        for (int cap = -1; cap <= 20; cap++) {
            fixtureCapIsClamped(cap, Math.max(2, Math.min(12, cap)));
            testCapIsClamped(cap, Math.max(1, Math.min(16, cap)));
        }
        newEngineIsEmpty();
        check.finish();
    }

    private static void fixtureCapIsClamped(int cap, int want) {
        FixtureEngineY x = new FixtureEngineY(cap, 5);
        int defined = 0;
        for (int n = 0; n < 40; n++) {
            defined += x.defineFixture(0, 0) >= 0 ? 1 : 0;
        }
        check.due("fixtures taken with fixtureCap " + cap, defined, want);
    }

    private static void testCapIsClamped(int cap, int want) {
        FixtureEngineY x = new FixtureEngineY(5, cap);
        int defined = 0;
        for (int n = 0; n < 40; n++) {
            defined += x.addTest(0, 0) >= 0 ? 1 : 0;
        }
        check.due("tests taken with testCap " + cap, defined, want);
    }

    private static void newEngineIsEmpty() {
        FixtureEngineY x = new FixtureEngineY(6, 6);
        check.due("itemCount()", x.itemCount(), 0);
        check.due("eventCount()", x.eventCount(), 0);
        for (int a : Check.ODD_INTS) {
            check.due("itemTest(" + a + ")", x.itemTest(a), -1);
            check.due("itemOutcome(" + a + ")", x.itemOutcome(a), -1);
            check.due("event(" + a + ")", x.event(a), -1);
            check.due("requestFixture(" + a + ", 0)", x.requestFixture(a, 0), false);
            check.due("setFailure(" + a + ", 0, 0)", x.setFailure(a, 0, 0), false);
            for (int b : Check.ODD_INTS) {
                check.due("itemParam(" + a + ", " + b + ")", x.itemParam(a, b), -1);
                check.due("addDependency(" + a + ", " + b + ")", x.addDependency(a, b), false);
            }
        }
    }
}
