/** Promise 1: each test names the words of the document that it holds. */
public final class Promise01ConstructionTest {
    private static final int MIN = Integer.MIN_VALUE;
    private static final int MAX = Integer.MAX_VALUE;

    private static final Check check = new Check();

    public static void main(String[] args) {
        neverFails();
        fixtureCapBelow();
        fixtureCapAtItsBounds();
        fixtureCapBetween();
        fixtureCapAbove();
        testCapBelow();
        testCapAtItsBounds();
        testCapBetween();
        testCapAbove();
        eachCapHasItsOwnBounds();
        noFixtures();
        noTests();
        noItemsAndNoEvents();
        gettersAnswerMinusOneForAllArguments();
        aNewEngineBesideAUsedOne();
        check.finish();
    }

    /** "never fails". */
    private static void neverFails() {
        for (int fixtureCap : Check.ODD_INTS) {
            for (int testCap : Check.ODD_INTS) {
                FixtureEngineY x = new FixtureEngineY(fixtureCap, testCap);
                String name = "with caps " + fixtureCap + ", " + testCap + ": ";
                check.due(name + "defineFixture(3, 3)", x.defineFixture(3, 3), 0);
                check.due(name + "addTest(3, 3)", x.addTest(3, 3), 0);
                check.due(name + "run()", x.run(), 1);
            }
        }
    }

    /** "any value below 2 (including negative values and Integer.MIN_VALUE) becomes 2". */
    private static void fixtureCapBelow() {
        for (int cap : new int[] {1, 0, -1, -2, -3, -7, -12, -13, -1000, -(1 << 30), MIN + 2, MIN + 1, MIN}) {
            takesFixtures(cap, 5, 2);
        }
    }

    /** "clamped into 2..12": the bounds themselves. */
    private static void fixtureCapAtItsBounds() {
        takesFixtures(2, 5, 2);
        takesFixtures(12, 5, 12);
    }

    /** "values in between are kept". */
    private static void fixtureCapBetween() {
        for (int cap = 3; cap <= 11; cap++) {
            takesFixtures(cap, 5, cap);
        }
    }

    /** "any value above 12 (including Integer.MAX_VALUE) becomes 12". */
    private static void fixtureCapAbove() {
        for (int cap : new int[] {13, 14, 15, 16, 17, 31, 32, 64, 256, 1000, 1 << 30, MAX - 1, MAX}) {
            takesFixtures(cap, 5, 12);
        }
    }

    /** "clamped into 1..16 the same way": below. */
    private static void testCapBelow() {
        for (int cap : new int[] {0, -1, -2, -3, -7, -16, -17, -1000, -(1 << 30), MIN + 2, MIN + 1, MIN}) {
            takesTests(5, cap, 1);
        }
    }

    /** "clamped into 1..16 the same way": the bounds themselves. */
    private static void testCapAtItsBounds() {
        takesTests(5, 1, 1);
        takesTests(5, 16, 16);
    }

    /** "clamped into 1..16 the same way": in between. */
    private static void testCapBetween() {
        for (int cap = 2; cap <= 15; cap++) {
            takesTests(5, cap, cap);
        }
    }

    /** "clamped into 1..16 the same way": above. */
    private static void testCapAbove() {
        for (int cap : new int[] {17, 18, 31, 32, 33, 64, 256, 1000, 1 << 30, MAX - 1, MAX}) {
            takesTests(5, cap, 16);
        }
    }

    private static void eachCapHasItsOwnBounds() {
        int[][] capsAndRoom = {
            {MIN, MAX, 2, 16}, {MAX, MIN, 12, 1}, {MIN, MIN, 2, 1}, {MAX, MAX, 12, 16}, {2, 16, 2, 16}, {12, 1, 12, 1},
            {1, 2, 2, 2}, {16, 12, 12, 12}, {1, 1, 2, 1}, {13, 13, 12, 13}, {16, 16, 12, 16}, {0, 17, 2, 16}
        };
        for (int[] row : capsAndRoom) {
            takesFixtures(row[0], row[1], row[2]);
            takesTests(row[0], row[1], row[3]);
        }
    }

    private static void takesFixtures(int fixtureCap, int testCap, int room) {
        FixtureEngineY x = new FixtureEngineY(fixtureCap, testCap);
        for (int n = 0; n < 40; n++) {
            check.due("with caps " + fixtureCap + ", " + testCap + ": fixture " + n,
                x.defineFixture(n % 4, n % 3), n < room ? n : -1);
        }
    }

    private static void takesTests(int fixtureCap, int testCap, int room) {
        FixtureEngineY x = new FixtureEngineY(fixtureCap, testCap);
        for (int n = 0; n < 40; n++) {
            check.due("with caps " + fixtureCap + ", " + testCap + ": test " + n,
                x.addTest(n % 4, n % 3), n < room ? n : -1);
        }
    }

    /** "The new engine has no fixtures". */
    private static void noFixtures() {
        FixtureEngineY x = new FixtureEngineY(12, 16);
        x.addTest(0, 0);
        for (int a : Check.ODD_INTS) {
            check.due("setFailure(" + a + ", 0, 1)", x.setFailure(a, 0, 1), false);
            check.due("requestFixture(0, " + a + ")", x.requestFixture(0, a), false);
            for (int b : Check.ODD_INTS) {
                check.due("addDependency(" + a + ", " + b + ")", x.addDependency(a, b), false);
            }
        }
    }

    /** "no tests". */
    private static void noTests() {
        FixtureEngineY x = new FixtureEngineY(12, 16);
        x.defineFixture(0, 2);
        for (int a : Check.ODD_INTS) {
            check.due("requestFixture(" + a + ", 0)", x.requestFixture(a, 0), false);
        }
        check.due("run()", x.run(), 0);
    }

    /** "itemCount() and eventCount() answer 0". */
    private static void noItemsAndNoEvents() {
        for (int cap : Check.ODD_INTS) {
            FixtureEngineY x = new FixtureEngineY(cap, cap);
            check.due("itemCount() with caps " + cap, x.itemCount(), 0);
            check.due("eventCount() with caps " + cap, x.eventCount(), 0);
        }
    }

    /** "itemTest, itemParam, itemOutcome and event answer -1 for all arguments". */
    private static void gettersAnswerMinusOneForAllArguments() {
        allAnswerMinusOne(new FixtureEngineY(MIN, MIN));
        allAnswerMinusOne(new FixtureEngineY(6, 6));
        allAnswerMinusOne(new FixtureEngineY(MAX, MAX));
    }

    private static void allAnswerMinusOne(FixtureEngineY x) {
        for (int a : Check.ODD_INTS) {
            check.due("itemTest(" + a + ")", x.itemTest(a), -1);
            check.due("itemOutcome(" + a + ")", x.itemOutcome(a), -1);
            check.due("event(" + a + ")", x.event(a), -1);
            for (int b : Check.ODD_INTS) {
                check.due("itemParam(" + a + ", " + b + ")", x.itemParam(a, b), -1);
            }
        }
        for (int a = -300; a <= 300; a++) {
            check.due("itemTest(" + a + ")", x.itemTest(a), -1);
            check.due("itemOutcome(" + a + ")", x.itemOutcome(a), -1);
            check.due("event(" + a + ")", x.event(a), -1);
            check.due("itemParam(" + a + ", 0)", x.itemParam(a, 0), -1);
            check.due("itemParam(0, " + a + ")", x.itemParam(0, a), -1);
        }
    }

    private static void aNewEngineBesideAUsedOne() {
        FixtureEngineY used = Scene.FULL.engine();
        String results = Check.results(used);
        FixtureEngineY x = new FixtureEngineY(12, 16);
        allAnswerMinusOne(x);
        check.due("the first fixture", x.defineFixture(0, 0), 0);
        check.due("the first test", x.addTest(0, 0), 0);
        check.due("the used one's results", Check.results(used), results);
    }
}
