/** Counts the answers that are not the ones due, and ends the program with exit code 1 if there was one. */
final class Check {
    static final int[] ODD_INTS = {
        Integer.MIN_VALUE, Integer.MIN_VALUE + 1, -(1 << 30), -100000, -17, -2, -1, 0, 1, 2, 3, 4, 5, 11, 12, 13, 15,
        16, 17, 31, 32, 33, 63, 64, 65, 255, 256, 257, 1 << 16, 100000, 1 << 28, 1 << 30, Integer.MAX_VALUE - 1,
        Integer.MAX_VALUE
    };

    private int made;
    private int wrong;

    void due(String call, Object got, Object want) {
        made++;
        if (!got.equals(want)) {
            wrong++;
            System.out.println(call + " answered " + got + ", due is " + want);
        }
    }

    void finish() {
        System.out.println(made + " answers looked at, " + wrong + " not as due");
        if (wrong != 0 || made == 0) {
            System.exit(1);
        }
    }

    /** All that the getters tell of the results, with one step beyond every bound. */
    static String results(FixtureEngineY x) {
        StringBuilder text = new StringBuilder();
        text.append(x.itemCount()).append(" items:");
        for (int i = -1; i <= FixtureEngineY.MAX_ITEMS; i++) {
            text.append(' ').append(x.itemTest(i)).append('/').append(x.itemOutcome(i)).append('[');
            for (int f = -1; f <= 12; f++) {
                text.append(x.itemParam(i, f)).append(',');
            }
            text.append(']');
        }
        text.append(' ').append(x.eventCount()).append(" events:").append(events(x));
        return text.toString();
    }

    /** The kept events, joined with blanks. */
    static String events(FixtureEngineY x) {
        StringBuilder text = new StringBuilder();
        for (int e = -1; e <= FixtureEngineY.LOG_CAPACITY; e++) {
            if (x.event(e) != -1) {
                text.append(text.length() == 0 ? "" : " ").append(x.event(e));
            }
        }
        return text.toString();
    }

    /** The test of every item in order, joined with blanks. */
    static String tests(FixtureEngineY x) {
        StringBuilder text = new StringBuilder();
        for (int i = 0; i < x.itemCount(); i++) {
            text.append(i == 0 ? "" : " ").append(x.itemTest(i));
        }
        return text.toString();
    }

    /** The value of fixture f in every item in order, joined with blanks. */
    static String params(FixtureEngineY x, int f) {
        StringBuilder text = new StringBuilder();
        for (int i = 0; i < x.itemCount(); i++) {
            text.append(i == 0 ? "" : " ").append(x.itemParam(i, f));
        }
        return text.toString();
    }

    /** The outcome of every item in order: P for a pass, E for an error. */
    static String outcomes(FixtureEngineY x) {
        StringBuilder text = new StringBuilder();
        for (int i = 0; i < x.itemCount(); i++) {
            int outcome = x.itemOutcome(i);
            text.append(outcome == FixtureEngineY.OUTCOME_PASS ? "P"
                : outcome == FixtureEngineY.OUTCOME_ERROR ? "E" : "?");
        }
        return text.toString();
    }
}
