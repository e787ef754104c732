public final class Promise12to13EventsTest {
    private static final Check check = new Check();

    public static void main(String[] args) {
        countAndEventsOfARun();
        encodingOfTheGreatest();
        refusedRunKeepsTheLog();
        laterDefinitionsKeepTheLog();
        fullLog();
        longerThanTheLog();
        theLongestLog();
        aShorterLogHidesTheOldOne();
        check.finish();
    }

    private static void countAndEventsOfARun() {
        FixtureEngineY x = new FixtureEngineY(2, 2);
        x.defineFixture(0, 0);
        x.defineFixture(3, 2);
        x.setFailure(1, 1, 1);
        x.addTest(0, 0);
        check.due("eventCount() before a run", x.eventCount(), 0);
        x.run();
        check.due("eventCount() of a run without fixtures", x.eventCount(), 0);
        x.requestFixture(0, 0);
        x.requestFixture(0, 1);
        check.due("eventCount() before the next run", x.eventCount(), 0);
        x.run();
        check.due("eventCount()", x.eventCount(), 5);
        int[] want = {100000, 100010, 200010, 301011, 201000};
        for (int index : Check.ODD_INTS) {
            check.due("event(" + index + ")", x.event(index), index >= 0 && index < 5 ? want[index] : -1);
        }
    }

    /** The last of 64 items sets fixture 11 up with value 2: 13 tests of four items, one of twelve. */
    private static void encodingOfTheGreatest() {
        FixtureEngineY x = new FixtureEngineY(12, 16);
        for (int f = 0; f < 12; f++) {
            x.defineFixture(f < 11 ? 0 : 3, f < 2 ? 2 : f < 11 ? 0 : 3);
        }
        for (int t = 0; t < 14; t++) {
            x.addTest(t / 4, 0);
            x.requestFixture(t, 0);
            x.requestFixture(t, 1);
        }
        x.requestFixture(13, 11);
        check.due("run()", x.run(), 64);
        check.due("eventCount()", x.eventCount(), 2 * (2 + 4 + 12));
        check.due("the last events", Check.events(x).endsWith(" 163112 263112 263011 263001"), true);
        x.setFailure(11, 2, 4);
        x.run();
        check.due("the last events with a failure", Check.events(x).endsWith(" 262111 363112 263011 263001"), true);
    }

    private static void refusedRunKeepsTheLog() {
        FixtureEngineY x = new FixtureEngineY(12, 16);
        x.defineFixture(0, 3);
        x.addTest(0, 0);
        x.requestFixture(0, 0);
        x.run();
        String before = Check.events(x);
        for (int f = 1; f < 12; f++) {
            x.defineFixture(3, 3);
            x.requestFixture(0, f);
        }
        check.due("run()", x.run(), -1);
        check.due("eventCount()", x.eventCount(), 6);
        check.due("events", Check.events(x), before);
    }

    private static void laterDefinitionsKeepTheLog() {
        FixtureEngineY x = manyEvents(3, 5);
        String before = Check.results(x);
        x.defineFixture(0, 2);
        x.setFailure(0, 0, 1);
        x.addDependency(1, 0);
        x.addTest(3, 3);
        x.requestFixture(0, 11);
        check.due("results", Check.results(x), before);
    }

    private static void fullLog() {
        FixtureEngineY x = manyEvents(8, 16);
        check.due("eventCount()", x.eventCount(), 256);
        check.due("event(254)", x.event(254), 215010);
        check.due("event(255)", x.event(255), 215000);
        check.due("event(256)", x.event(256), -1);
    }

    private static void longerThanTheLog() {
        FixtureEngineY x = manyEvents(9, 15);
        check.due("eventCount()", x.eventCount(), 270);
        check.due("event(0)", x.event(0), 100000);
        check.due("event(255)", x.event(255), 114030);
        for (int index = 256; index <= 271; index++) {
            check.due("event(" + index + ")", x.event(index), -1);
        }
        check.due("outcomes", Check.outcomes(x), "PPPPPPPPPPPPPPP");
    }

    /** 64 items of twelve function fixtures each. */
    private static void theLongestLog() {
        FixtureEngineY x = new FixtureEngineY(12, 16);
        for (int f = 0; f < 12; f++) {
            x.defineFixture(3, f < 2 ? 2 : 0);
        }
        for (int t = 0; t < 16; t++) {
            x.addTest(0, 0);
            for (int f = 0; f < 12; f++) {
                x.requestFixture(t, f);
            }
        }
        x.setFailure(11, 0, 15);
        check.due("run()", x.run(), 64);
        check.due("eventCount()", x.eventCount(), 64 * 24 - 1);
        check.due("event(255)", x.event(255), 210080);
        check.due("event(256)", x.event(256), -1);
        check.due("event(1535)", x.event(1535), -1);
        check.due("an outcome past the end of the log", x.itemOutcome(14), FixtureEngineY.OUTCOME_ERROR);
    }

    private static void aShorterLogHidesTheOldOne() {
        FixtureEngineY x = manyEvents(8, 16);
        x.setFailure(0, 0, 1);
        x.run();
        check.due("eventCount()", x.eventCount(), 256 - 15);
        check.due("event(0)", x.event(0), 300000);
        check.due("event(240)", x.event(240), 215000);
        for (int index = 241; index <= 256; index++) {
            check.due("event(" + index + ")", x.event(index), -1);
        }
    }

    private static FixtureEngineY manyEvents(int fixtures, int tests) {
        FixtureEngineY x = new FixtureEngineY(12, 16);
        for (int f = 0; f < fixtures; f++) {
            x.defineFixture(3, 0);
        }
        for (int t = 0; t < tests; t++) {
            x.addTest(0, 0);
            for (int f = 0; f < fixtures; f++) {
                x.requestFixture(t, f);
            }
        }
        x.run();
        return x;
    }
}
