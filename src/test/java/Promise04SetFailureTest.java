/** Promise 4: each test names the words of the document that it holds. */
public final class Promise04SetFailureTest {
    private static final int[] WRONG_ATTEMPTS = {
        Integer.MIN_VALUE, -16, -15, -2, -1, 16, 17, 31, 32, 64, 256, Integer.MAX_VALUE
    };

    private static final Check check = new Check();

    public static void main(String[] args) {
        undefinedFixture();
        undefinedFixturesStayPlain();
        paramTooSmall();
        paramTooLarge();
        everyParamIsTaken();
        unparametrisedTakesZeroAlone();
        attemptTooSmall();
        attemptTooLarge();
        everyAttemptIsTaken();
        everyArgument();
        theScriptedAttemptFails();
        eachParamHasItsOwn();
        eachFixtureHasItsOwn();
        aLaterOneReplacesAnEarlierOne();
        zeroClears();
        zeroWithoutAnEarlierOne();
        sameAgain();
        countedWithinOneRun();
        falseChangesNothing();
        nothingElseChanges();
        earlierResultsAreNotChanged();
        check.finish();
    }

    /** "f not a defined fixture id: false". */
    private static void undefinedFixture() {
        FixtureEngineY x = new FixtureEngineY(12, 1);
        x.defineFixture(0, 0);
        x.defineFixture(0, 3);
        for (int f : Check.ODD_INTS) {
            if (f < 0 || f > 1) {
                check.due("setFailure(" + f + ", 0, 0)", x.setFailure(f, 0, 0), false);
                check.due("setFailure(" + f + ", 0, 1)", x.setFailure(f, 0, 1), false);
                check.due("setFailure(" + f + ", 2, 15)", x.setFailure(f, 2, 15), false);
            }
        }
        check.due("the last one: setFailure(1, 2, 15)", x.setFailure(1, 2, 15), true);
    }

    private static void undefinedFixturesStayPlain() {
        for (int attempt = 1; attempt <= 15; attempt++) {
            FixtureEngineY x = new FixtureEngineY(3, 16);
            for (int f = 0; f < 3; f++) {
                check.due("setFailure(" + f + ", 0, " + attempt + ")", x.setFailure(f, 0, attempt), false);
            }
            for (int f = 0; f < 3; f++) {
                x.defineFixture(3, 0);
            }
            requestAllByTests(x, 16, 3);
            x.run();
            check.due("outcomes", Check.outcomes(x), "PPPPPPPPPPPPPPPP");
        }
    }

    /** "param not in 0..max(pc(f),1)-1: false". */
    private static void paramTooSmall() {
        FixtureEngineY x = fixtureForEachCount();
        for (int f = 0; f <= 3; f++) {
            for (int param : new int[] {-1, -2, -3, -4, -100, Integer.MIN_VALUE}) {
                check.due("setFailure(" + f + ", " + param + ", 1)", x.setFailure(f, param, 1), false);
            }
        }
    }

    /** "param not in 0..max(pc(f),1)-1: false". */
    private static void paramTooLarge() {
        FixtureEngineY x = fixtureForEachCount();
        int[] firstTooLarge = {1, 1, 2, 3};
        for (int f = 0; f <= 3; f++) {
            for (int param = firstTooLarge[f]; param <= 40; param++) {
                check.due("setFailure(" + f + ", " + param + ", 1)", x.setFailure(f, param, 1), false);
            }
            check.due("setFailure(" + f + ", MAX, 1)", x.setFailure(f, Integer.MAX_VALUE, 1), false);
        }
    }

    private static void everyParamIsTaken() {
        FixtureEngineY x = fixtureForEachCount();
        for (int f = 1; f <= 3; f++) {
            for (int param = 0; param < f; param++) {
                check.due("setFailure(" + f + ", " + param + ", 1)", x.setFailure(f, param, 1), true);
            }
        }
    }

    /** "for pc(f) = 0 only param = 0 is accepted". */
    private static void unparametrisedTakesZeroAlone() {
        FixtureEngineY x = fixtureForEachCount();
        for (int param : Check.ODD_INTS) {
            check.due("setFailure(0, " + param + ", 1)", x.setFailure(0, param, 1), param == 0);
        }
    }

    /** "attempt not in 0..15: false". */
    private static void attemptTooSmall() {
        FixtureEngineY x = fixtureForEachCount();
        for (int attempt : new int[] {-1, -2, -15, -16, -100, Integer.MIN_VALUE}) {
            check.due("setFailure(0, 0, " + attempt + ")", x.setFailure(0, 0, attempt), false);
            check.due("setFailure(3, 2, " + attempt + ")", x.setFailure(3, 2, attempt), false);
        }
    }

    /** "attempt not in 0..15: false". */
    private static void attemptTooLarge() {
        FixtureEngineY x = fixtureForEachCount();
        for (int attempt : new int[] {16, 17, 31, 32, 64, 100, 256, 1 << 16, Integer.MAX_VALUE}) {
            check.due("setFailure(0, 0, " + attempt + ")", x.setFailure(0, 0, attempt), false);
            check.due("setFailure(3, 2, " + attempt + ")", x.setFailure(3, 2, attempt), false);
        }
    }

    private static void everyAttemptIsTaken() {
        FixtureEngineY x = fixtureForEachCount();
        for (int attempt = 0; attempt <= 15; attempt++) {
            check.due("setFailure(0, 0, " + attempt + ")", x.setFailure(0, 0, attempt), true);
            check.due("setFailure(3, 2, " + attempt + ")", x.setFailure(3, 2, attempt), true);
        }
    }

    private static void everyArgument() {
        FixtureEngineY x = fixtureForEachCount();
        for (int f : Check.ODD_INTS) {
            for (int param : Check.ODD_INTS) {
                for (int attempt : Check.ODD_INTS) {
                    boolean want = f >= 0 && f <= 3 && param >= 0 && param < Math.max(f, 1)
                        && attempt >= 0 && attempt <= 15;
                    check.due("setFailure(" + f + ", " + param + ", " + attempt + ")",
                        x.setFailure(f, param, attempt), want);
                }
            }
        }
    }

    /** Fixture f has f parameter values. */
    private static FixtureEngineY fixtureForEachCount() {
        FixtureEngineY x = new FixtureEngineY(12, 1);
        for (int f = 0; f <= 3; f++) {
            x.defineFixture(0, f);
        }
        return x;
    }

    /** "the attempt-th setup attempt ... fails": that one alone, the fifteenth being the greatest. */
    private static void theScriptedAttemptFails() {
        for (int attempt = 0; attempt <= 15; attempt++) {
            FixtureEngineY x = manyAttempts();
            check.due("setFailure(1, 0, " + attempt + ")", x.setFailure(1, 0, attempt), true);
            check.due("run()", x.run(), 32);
            check.due("attempt " + attempt, Check.outcomes(x), errorAt(32, attempt - 1));
        }
    }

    /** "of (f, param)". */
    private static void eachParamHasItsOwn() {
        FixtureEngineY x = new FixtureEngineY(3, 3);
        x.defineFixture(3, 3);
        x.defineFixture(3, 0);
        requestAllByTests(x, 3, 1);
        x.setFailure(0, 0, 3);
        x.setFailure(0, 1, 1);
        x.setFailure(0, 2, 2);
        x.setFailure(1, 0, 1);
        x.run();
        check.due("tests", Check.tests(x), "0 0 0 1 1 1 2 2 2");
        check.due("params", Check.params(x, 0), "0 1 2 0 1 2 0 1 2");
        check.due("outcomes", Check.outcomes(x), "PEPPPEEPP");
    }

    /** "of (f, param)": each of twelve fixtures with each of three values, and that pair alone. */
    private static void eachFixtureHasItsOwn() {
        for (int f = 0; f < 12; f++) {
            for (int param = 0; param < 3; param++) {
                FixtureEngineY x = new FixtureEngineY(12, 12);
                for (int t = 0; t < 12; t++) {
                    x.defineFixture(3, 3);
                    x.addTest(0, 0);
                    x.requestFixture(t, t);
                }
                x.setFailure(f, param, 1);
                check.due("run()", x.run(), 36);
                check.due("setFailure(" + f + ", " + param + ", 1)", Check.outcomes(x), errorAt(36, f * 3 + param));
            }
        }
    }

    /** "replacing any earlier one". */
    private static void aLaterOneReplacesAnEarlierOne() {
        for (int first = 1; first <= 15; first++) {
            for (int second = 1; second <= 15; second++) {
                FixtureEngineY x = manyAttempts();
                x.setFailure(1, 0, first);
                check.due("setFailure(1, 0, " + second + ")", x.setFailure(1, 0, second), true);
                x.run();
                check.due(first + " and then " + second, Check.outcomes(x), errorAt(32, second - 1));
            }
        }
    }

    /** "attempt = 0 clears it, meaning never fails". */
    private static void zeroClears() {
        for (int attempt = 1; attempt <= 15; attempt++) {
            FixtureEngineY x = manyAttempts();
            x.setFailure(1, 0, attempt);
            check.due("setFailure(1, 0, 0)", x.setFailure(1, 0, 0), true);
            x.run();
            check.due("cleared", Check.outcomes(x), errorAt(32, -1));
            check.due("setFailure(1, 0, 2)", x.setFailure(1, 0, 2), true);
            x.run();
            check.due("set anew", Check.outcomes(x), errorAt(32, 1));
        }
    }

    private static void zeroWithoutAnEarlierOne() {
        FixtureEngineY x = manyAttempts();
        check.due("setFailure(1, 0, 0)", x.setFailure(1, 0, 0), true);
        check.due("setFailure(1, 0, 0) again", x.setFailure(1, 0, 0), true);
        x.run();
        check.due("nothing fails", Check.outcomes(x), errorAt(32, -1));
    }

    private static void sameAgain() {
        FixtureEngineY x = manyAttempts();
        for (int n = 0; n < 3; n++) {
            check.due("setFailure(1, 0, 4)", x.setFailure(1, 0, 4), true);
            x.run();
            check.due("the fourth fails", Check.outcomes(x), errorAt(32, 3));
        }
    }

    /** "counted within one run". */
    private static void countedWithinOneRun() {
        FixtureEngineY x = new FixtureEngineY(2, 16);
        x.defineFixture(3, 0);
        requestAllByTests(x, 14, 1);
        x.setFailure(0, 0, 15);
        for (int n = 0; n < 3; n++) {
            x.run();
            check.due("fourteen attempts in each run", Check.outcomes(x), errorAt(14, -1));
        }
        x.addTest(0, 0);
        x.requestFixture(14, 0);
        for (int n = 0; n < 3; n++) {
            x.run();
            check.due("fifteen attempts in each run", Check.outcomes(x), errorAt(15, 14));
        }
    }

    /** "a false answer changes nothing": for each of the three checks. */
    private static void falseChangesNothing() {
        for (int f : new int[] {-1, 2, 3, 12, Integer.MIN_VALUE, Integer.MAX_VALUE}) {
            falseChangesNothing(f, 0, 1);
            falseChangesNothing(f, 3, 1);
        }
        for (int attempt = 0; attempt <= 15; attempt++) {
            falseChangesNothing(0, -1, attempt);
            falseChangesNothing(0, 2, attempt);
            falseChangesNothing(0, 3, attempt);
            falseChangesNothing(1, -1, attempt);
            falseChangesNothing(1, -2, attempt);
            falseChangesNothing(1, 1, attempt);
        }
        for (int attempt : WRONG_ATTEMPTS) {
            falseChangesNothing(0, 0, attempt);
            falseChangesNothing(0, 1, attempt);
            falseChangesNothing(1, 0, attempt);
        }
    }

    private static void falseChangesNothing(int f, int param, int attempt) {
        Probe.refused(check, "setFailure(" + f + ", " + param + ", " + attempt + ")",
            Promise04SetFailureTest::scripted, x -> x.setFailure(f, param, attempt), false);
    }

    private static FixtureEngineY scripted() {
        FixtureEngineY x = manyAttempts();
        x.setFailure(0, 1, 15);
        x.setFailure(1, 0, 7);
        x.run();
        return x;
    }

    /** "Nothing else changes". */
    private static void nothingElseChanges() {
        FixtureEngineY x = Scene.RUN.engine();
        check.due("setFailure(2, 0, 9)", x.setFailure(2, 0, 9), true);
        // Value 0 of fixture 2 is never tried nine times, so nothing can be seen of it.
        check.due("all but the script", Probe.of(x).equals(Probe.of(Scene.RUN.engine())), true);
    }

    /** "Results of earlier runs are not changed." */
    private static void earlierResultsAreNotChanged() {
        FixtureEngineY x = manyAttempts();
        x.run();
        String before = Check.results(x);
        check.due("setFailure(1, 0, 1)", x.setFailure(1, 0, 1), true);
        check.due("results after the call", Check.results(x), before);
        x.run();
        check.due("outcomes of the next run", Check.outcomes(x), errorAt(32, 0));
        before = Check.results(x);
        check.due("setFailure(1, 0, 0)", x.setFailure(1, 0, 0), true);
        check.due("results after clearing", Check.results(x), before);
    }

    /** Fixture 0 is tried 16 times with each of its two values, fixture 1 32 times; there is room for another one. */
    private static FixtureEngineY manyAttempts() {
        FixtureEngineY x = new FixtureEngineY(3, 16);
        x.defineFixture(3, 2);
        x.defineFixture(3, 0);
        requestAllByTests(x, 16, 2);
        return x;
    }

    private static void requestAllByTests(FixtureEngineY x, int tests, int fixtures) {
        for (int t = 0; t < tests; t++) {
            x.addTest(0, 0);
            for (int f = 0; f < fixtures; f++) {
                x.requestFixture(t, f);
            }
        }
    }

    private static String errorAt(int items, int error) {
        StringBuilder text = new StringBuilder("P".repeat(items));
        if (error >= 0) {
            text.setCharAt(error, 'E');
        }
        return text.toString();
    }
}
