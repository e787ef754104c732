/** Promise 7, Log: "Only events numbered below LOG_CAPACITY are kept; later ones are only counted." */
public final class Promise07LogTest {
    private static final Check check = new Check();

    public static void main(String[] args) {
        numberedInTheOrderLogged();
        emptyLog();
        oneBelowTheCapacity();
        atTheCapacity();
        oneAboveTheCapacity();
        twoAboveTheCapacity();
        farAboveTheCapacity();
        theRunGoesOnBeyondTheCapacity();
        aFailureBeyondTheCapacityIsCounted();
        aShortLogAfterALongOne();
        aLongLogAfterAShortOne();
        check.finish();
    }

    /** "Events are numbered 0, 1, 2, ... in the order logged." */
    private static void numberedInTheOrderLogged() {
        FixtureEngineY x = functionFixtures(2, 2);
        x.setFailure(1, 0, 1);
        x.run();
        int[] want = {100000, 300010, 200000, 101000, 101010, 201010, 201000};
        for (int e = 0; e < want.length; e++) {
            check.due("event(" + e + ")", x.event(e), want[e]);
        }
        check.due("eventCount()", x.eventCount(), 7);
    }

    private static void emptyLog() {
        FixtureEngineY x = functionFixtures(2, 0);
        x.addTest(0, 0);
        x.run();
        check.due("eventCount()", x.eventCount(), 0);
        keepsTheFirst(x, 0);
    }

    private static void oneBelowTheCapacity() {
        FixtureEngineY x = functionFixtures(8, 16);
        x.setFailure(7, 0, 15);
        x.run();
        check.due("eventCount()", x.eventCount(), 255);
        check.due("event(254)", x.event(254), 215000);
        keepsTheFirst(x, 255);
    }

    private static void atTheCapacity() {
        FixtureEngineY x = functionFixtures(8, 16);
        x.run();
        check.due("eventCount()", x.eventCount(), 256);
        check.due("event(254)", x.event(254), 215010);
        check.due("event(255)", x.event(255), 215000);
        keepsTheFirst(x, 256);
    }

    /** Items 0 to 13 log 16 events, item 14 logs 15, and the last one 18. */
    private static void oneAboveTheCapacity() {
        FixtureEngineY x = withASessionFixtureAtTheEnd();
        x.setFailure(7, 0, 15);
        x.run();
        check.due("eventCount()", x.eventCount(), 257);
        check.due("event(247)", x.event(247), 115080);
        check.due("event(248)", x.event(248), 215080);
        check.due("event(255)", x.event(255), 215010);
        keepsTheFirst(x, 256);
    }

    private static void twoAboveTheCapacity() {
        FixtureEngineY x = withASessionFixtureAtTheEnd();
        x.run();
        check.due("eventCount()", x.eventCount(), 258);
        check.due("event(255)", x.event(255), 215020);
        keepsTheFirst(x, 256);
    }

    /** 64 items of twelve function fixtures each. */
    private static void farAboveTheCapacity() {
        FixtureEngineY x = new FixtureEngineY(12, 16);
        for (int f = 0; f < 12; f++) {
            x.defineFixture(3, f < 2 ? 2 : 0);
        }
        requestAll(x, 12, 16);
        check.due("run()", x.run(), 64);
        check.due("eventCount()", x.eventCount(), 1536);
        check.due("event(0)", x.event(0), 100000);
        check.due("event(255)", x.event(255), 210080);
        keepsTheFirst(x, 256);
    }

    /** "later ones are only counted": the items behind them are set up and told as before. */
    private static void theRunGoesOnBeyondTheCapacity() {
        FixtureEngineY x = functionFixtures(12, 16);
        x.setFailure(0, 0, 11);
        x.setFailure(11, 0, 13);
        check.due("run()", x.run(), 16);
        check.due("outcomes", Check.outcomes(x), "PPPPPPPPPPEPPEPP");
        check.due("eventCount()", x.eventCount(), 16 * 24 - 23 - 1);
        check.due("itemParam(15, 11)", x.itemParam(15, 11), 0);
        check.due("itemTest(15)", x.itemTest(15), 15);
    }

    private static void aFailureBeyondTheCapacityIsCounted() {
        FixtureEngineY x = functionFixtures(12, 11);
        x.run();
        check.due("eventCount()", x.eventCount(), 264);
        String kept = Check.events(x);
        x.setFailure(11, 0, 11);
        x.run();
        // Item 10 starts at event 240: eleven setups, the failure at 251, and eleven teardowns.
        check.due("eventCount() with a failure", x.eventCount(), 263);
        check.due("event(250)", x.event(250), 110100);
        check.due("event(251)", x.event(251), 310110);
        check.due("event(252)", x.event(252), 210100);
        check.due("the events before it", Check.events(x).startsWith(kept.substring(0, 251 * 7)), true);
    }

    /** No event of the earlier run is left where the later one has none. */
    private static void aShortLogAfterALongOne() {
        FixtureEngineY x = functionFixtures(9, 16);
        x.run();
        check.due("eventCount()", x.eventCount(), 288);
        x.setFailure(0, 0, 1);
        x.run();
        check.due("eventCount() with the first item failing", x.eventCount(), 271);
        keepsTheFirst(x, 256);
        x = functionFixtures(8, 16);
        x.run();
        x.setFailure(0, 0, 1);
        x.run();
        check.due("eventCount() of a log that has become shorter", x.eventCount(), 241);
        check.due("event(0)", x.event(0), 300000);
        check.due("event(240)", x.event(240), 215000);
        keepsTheFirst(x, 241);
    }

    private static void aLongLogAfterAShortOne() {
        FixtureEngineY x = functionFixtures(8, 2);
        x.run();
        check.due("eventCount()", x.eventCount(), 32);
        keepsTheFirst(x, 32);
        for (int t = 2; t < 16; t++) {
            x.addTest(0, 0);
            for (int f = 0; f < 8; f++) {
                x.requestFixture(t, f);
            }
        }
        keepsTheFirst(x, 32);
        x.run();
        check.due("eventCount()", x.eventCount(), 256);
        keepsTheFirst(x, 256);
    }

    private static void keepsTheFirst(FixtureEngineY x, int kept) {
        for (int e = 0; e < 1600; e++) {
            check.due("event(" + e + ") is kept", x.event(e) != -1, e < kept);
        }
    }

    private static FixtureEngineY functionFixtures(int fixtures, int tests) {
        FixtureEngineY x = new FixtureEngineY(12, 16);
        for (int f = 0; f < fixtures; f++) {
            x.defineFixture(3, 0);
        }
        requestAll(x, fixtures, tests);
        return x;
    }

    /** 258 events: 16 for each of 16 items, and two of a session fixture that only the last one has. */
    private static FixtureEngineY withASessionFixtureAtTheEnd() {
        FixtureEngineY x = functionFixtures(8, 16);
        x.defineFixture(0, 0);
        x.requestFixture(15, 8);
        return x;
    }

    private static void requestAll(FixtureEngineY x, int fixtures, int tests) {
        for (int t = 0; t < tests; t++) {
            x.addTest(0, 0);
            for (int f = 0; f < fixtures; f++) {
                x.requestFixture(t, f);
            }
        }
    }
}
