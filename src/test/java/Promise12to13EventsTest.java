/** Promises 12 and 13: each test names the words of the document that it holds. */
public final class Promise12to13EventsTest {
    private static final Check check = new Check();

    public static void main(String[] args) {
        beforeAnyRun();
        afterARunWithoutEvents();
        countOfTheLastRun();
        eachKindOfEvent();
        eachPartOfAnEvent();
        theGreatestEvent();
        outsideTheEvents();
        outsideAFullLog();
        countBeyondTheCapacity();
        theGreatestCount();
        afterARefusedRun();
        afterARefusedRunWithALongLog();
        afterARefusedFirstRun();
        afterLaterDefinitions();
        gettersChangeNothing();
        check.finish();
    }

    /** "0 before any such run". */
    private static void beforeAnyRun() {
        FixtureEngineY x = new FixtureEngineY(12, 16);
        for (int n = 0; n < 12; n++) {
            x.defineFixture(n % 4, 0);
            x.addTest(n % 4, 0);
            x.requestFixture(n, n);
            noEvents(x);
        }
    }

    private static void noEvents(FixtureEngineY x) {
        check.due("eventCount()", x.eventCount(), 0);
        for (int index : Check.ODD_INTS) {
            check.due("event(" + index + ")", x.event(index), -1);
        }
        for (int index = -300; index <= 300; index++) {
            check.due("event(" + index + ")", x.event(index), -1);
        }
    }

    private static void afterARunWithoutEvents() {
        FixtureEngineY x = new FixtureEngineY(2, 2);
        x.run();
        noEvents(x);
        x.addTest(0, 0);
        x.run();
        noEvents(x);
        x.defineFixture(0, 0);
        x.requestFixture(0, 0);
        noEvents(x);
    }

    /** "the total number of events logged by the last run that was not refused". */
    private static void countOfTheLastRun() {
        FixtureEngineY x = new FixtureEngineY(2, 2);
        x.defineFixture(0, 0);
        x.defineFixture(3, 2);
        x.addTest(0, 0);
        x.requestFixture(0, 0);
        x.run();
        check.due("eventCount()", x.eventCount(), 2);
        x.requestFixture(0, 1);
        check.due("eventCount() before the next run", x.eventCount(), 2);
        x.run();
        check.due("eventCount() after the next run", x.eventCount(), 6);
        x.setFailure(0, 0, 1);
        x.setFailure(1, 1, 1);
        x.run();
        check.due("eventCount() of two errors", x.eventCount(), 4);
        check.due("events of two errors", Check.events(x), "300000 101000 301011 201000");
    }

    /** "kind is EVENT_SETUP, EVENT_TEARDOWN or EVENT_SETUP_FAIL". */
    private static void eachKindOfEvent() {
        FixtureEngineY x = new FixtureEngineY(2, 2);
        x.defineFixture(0, 0);
        x.defineFixture(3, 2);
        x.setFailure(1, 1, 1);
        x.addTest(0, 0);
        x.requestFixture(0, 0);
        x.requestFixture(0, 1);
        x.run();
        check.due("eventCount()", x.eventCount(), 5);
        int[] want = {100000, 100010, 200010, 301011, 201000};
        for (int index : Check.ODD_INTS) {
            check.due("event(" + index + ")", x.event(index), index >= 0 && index < 5 ? want[index] : -1);
        }
    }

    /** "kind*100000 + item*1000 + fixture*10 + param": every item, fixture and value there can be. */
    private static void eachPartOfAnEvent() {
        for (int f = 0; f < 12; f++) {
            FixtureEngineY x = new FixtureEngineY(12, 16);
            for (int n = 0; n <= f; n++) {
                x.defineFixture(3, 3);
            }
            for (int t = 0; t < 16; t++) {
                x.addTest(0, 0);
                x.requestFixture(t, f);
            }
            x.setFailure(f, 0, 15);
            check.due("run()", x.run(), 48);
            int e = 0;
            for (int i = 0; i < 48; i++) {
                int rest = i * 1000 + f * 10 + i % 3;
                check.due("event(" + e + ")", x.event(e++), (i == 42 ? 300000 : 100000) + rest);
                if (i != 42) {
                    check.due("event(" + e + ")", x.event(e++), 200000 + rest);
                }
            }
            check.due("eventCount()", x.eventCount(), e);
        }
    }

    /** The last of 64 items sets fixture 11 up with value 2: 13 tests of four items, one of twelve. */
    private static void theGreatestEvent() {
        FixtureEngineY x = new FixtureEngineY(12, 16);
        for (int f = 0; f < 12; f++) {
            x.defineFixture(f < 11 ? 0 : 3, f < 2 ? 2 : f < 11 ? 0 : 3);
        }
        for (int t = 0; t < 14; t++) {
            x.addTest(t / 4, 0);
            x.requestFixture(t, 0);
            x.requestFixture(t, 1);
        }
        x.requestFixture(13, 11);
        check.due("run()", x.run(), 64);
        check.due("eventCount()", x.eventCount(), 2 * (2 + 4 + 12));
        check.due("the last events", Check.events(x).endsWith(" 163112 263112 263011 263001"), true);
        x.setFailure(11, 2, 4);
        x.run();
        check.due("the last events with a failure", Check.events(x).endsWith(" 262111 363112 263011 263001"), true);
    }

    /** "-1 if index is not in 0..min(eventCount(), LOG_CAPACITY)-1": below the capacity. */
    private static void outsideTheEvents() {
        FixtureEngineY x = manyEvents(2, 3);
        check.due("eventCount()", x.eventCount(), 12);
        check.due("event(0)", x.event(0), 100000);
        check.due("event(11)", x.event(11), 202000);
        for (int index = 12; index <= 600; index++) {
            check.due("event(" + index + ")", x.event(index), -1);
        }
        for (int index = -600; index < 0; index++) {
            check.due("event(" + index + ")", x.event(index), -1);
        }
        for (int index : Check.ODD_INTS) {
            check.due("event(" + index + ") is there", x.event(index) != -1, index >= 0 && index < 12);
        }
    }

    /** "-1 if index is not in 0..min(eventCount(), LOG_CAPACITY)-1": at the capacity and above it. */
    private static void outsideAFullLog() {
        for (FixtureEngineY x : new FixtureEngineY[] {manyEvents(8, 16), manyEvents(9, 16), manyEvents(12, 16)}) {
            check.due("event(0)", x.event(0), 100000);
            for (int index : Check.ODD_INTS) {
                check.due("event(" + index + ") is there", x.event(index) != -1, index >= 0 && index < 256);
            }
            for (int index = 256; index <= 1600; index++) {
                check.due("event(" + index + ")", x.event(index), -1);
            }
        }
    }

    /** "It may exceed LOG_CAPACITY." */
    private static void countBeyondTheCapacity() {
        FixtureEngineY x = manyEvents(9, 15);
        check.due("eventCount()", x.eventCount(), 270);
        check.due("event(0)", x.event(0), 100000);
        check.due("event(255)", x.event(255), 114030);
        check.due("event(256)", x.event(256), -1);
        check.due("event(269)", x.event(269), -1);
        check.due("event(270)", x.event(270), -1);
        check.due("outcomes", Check.outcomes(x), "PPPPPPPPPPPPPPP");
    }

    /** 64 items of twelve function fixtures each. */
    private static void theGreatestCount() {
        FixtureEngineY x = new FixtureEngineY(12, 16);
        for (int f = 0; f < 12; f++) {
            x.defineFixture(3, f < 2 ? 2 : 0);
        }
        requestAll(x, 12, 16);
        check.due("run()", x.run(), 64);
        check.due("eventCount()", x.eventCount(), 1536);
        x.setFailure(11, 0, 15);
        x.run();
        check.due("eventCount() with a failure", x.eventCount(), 1535);
        check.due("event(255)", x.event(255), 210080);
        check.due("event(256)", x.event(256), -1);
        check.due("event(1535)", x.event(1535), -1);
        check.due("an outcome past the end of the log", x.itemOutcome(14), FixtureEngineY.OUTCOME_ERROR);
    }

    /** "the last run that was not refused": a refused one leaves the count and the events. */
    private static void afterARefusedRun() {
        FixtureEngineY x = new FixtureEngineY(12, 16);
        x.defineFixture(0, 3);
        x.addTest(0, 0);
        x.requestFixture(0, 0);
        x.run();
        for (int f = 1; f < 12; f++) {
            x.defineFixture(3, 3);
            x.requestFixture(0, f);
        }
        for (int n = 0; n < 3; n++) {
            check.due("run()", x.run(), -1);
            check.due("eventCount()", x.eventCount(), 6);
            check.due("events", Check.events(x), "100000 200000 101001 201001 102002 202002");
            check.due("event(6)", x.event(6), -1);
        }
    }

    private static void afterARefusedRunWithALongLog() {
        FixtureEngineY x = manyEvents(9, 16);
        String before = Check.results(x);
        for (int f = 9; f < 12; f++) {
            x.defineFixture(3, 3);
            x.requestFixture(0, f);
            x.requestFixture(1, f);
            x.requestFixture(2, f);
        }
        check.due("run()", x.run(), -1);
        check.due("eventCount()", x.eventCount(), 288);
        check.due("results", Check.results(x), before);
    }

    private static void afterARefusedFirstRun() {
        noEvents(Scene.REFUSED_FIRST_RUN.engine());
    }

    private static void afterLaterDefinitions() {
        FixtureEngineY x = manyEvents(3, 5);
        String before = Check.results(x);
        x.defineFixture(0, 2);
        x.setFailure(0, 0, 1);
        x.addDependency(1, 0);
        x.addTest(3, 3);
        x.requestFixture(0, 3);
        check.due("results", Check.results(x), before);
    }

    /** "It changes nothing." Each getter by itself, with good and wrong arguments. */
    private static void gettersChangeNothing() {
        for (Scene scene : Scene.values()) {
            String untouched = Probe.of(scene.engine());
            FixtureEngineY x = scene.engine();
            check.due("eventCount() twice", x.eventCount(), x.eventCount());
            check.due(scene + ": eventCount() changes nothing", Probe.of(x).equals(untouched), true);
            x = scene.engine();
            for (int index : Check.ODD_INTS) {
                x.event(index);
            }
            check.due(scene + ": event changes nothing", Probe.of(x).equals(untouched), true);
        }
        FixtureEngineY x = manyEvents(12, 16);
        check.due("eventCount() of a long log", x.eventCount(), 384);
        check.due("eventCount() of a long log again", x.eventCount(), 384);
        x.setFailure(0, 0, 1);
        x.run();
        check.due("event(0) of a failure", x.event(0), 300000);
        check.due("event(-1)", x.event(-1), -1);
        check.due("event(0) of a failure again", x.event(0), 300000);
    }

    private static FixtureEngineY manyEvents(int fixtures, int tests) {
        FixtureEngineY x = new FixtureEngineY(12, 16);
        for (int f = 0; f < fixtures; f++) {
            x.defineFixture(3, 0);
        }
        requestAll(x, fixtures, tests);
        x.run();
        return x;
    }

    private static void requestAll(FixtureEngineY x, int fixtures, int tests) {
        for (int t = 0; t < tests; t++) {
            x.addTest(0, 0);
            for (int f = 0; f < fixtures; f++) {
                x.requestFixture(t, f);
            }
        }
    }
}
