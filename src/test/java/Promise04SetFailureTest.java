public final class Promise04SetFailureTest {
    private static final Check check = new Check();

    public static void main(String[] args) {
        everyArgument();
        everyAttemptNumber();
        eachParamHasItsOwn();
        replacedAndCleared();
        falseChangesNothing();
        earlierResultsStay();
        check.finish();
    }

    private static void everyArgument() {
        FixtureEngineY x = new FixtureEngineY(12, 1);
        for (int f = 0; f < 4; f++) {
            x.defineFixture(0, f);
        }
        for (int f : Check.ODD_INTS) {
            for (int param : Check.ODD_INTS) {
                for (int attempt : Check.ODD_INTS) {
                    boolean want = f >= 0 && f <= 3 && param >= 0 && param < Math.max(f, 1)
                        && attempt >= 0 && attempt <= 15;
                    check.due("setFailure(" + f + ", " + param + ", " + attempt + ")",
                        x.setFailure(f, param, attempt), want);
                }
            }
        }
    }

    /** Sixteen items that set a function fixture up one after another: only the scripted one fails. */
    private static void everyAttemptNumber() {
        for (int attempt = 0; attempt <= 15; attempt++) {
            FixtureEngineY x = sixteenTests(0);
            check.due("setFailure(0, 0, " + attempt + ")", x.setFailure(0, 0, attempt), true);
            StringBuilder want = new StringBuilder("PPPPPPPPPPPPPPPP");
            if (attempt > 0) {
                want.setCharAt(attempt - 1, 'E');
            }
            for (int round = 0; round < 2; round++) {
                x.run();
                check.due("attempt " + attempt + ", round " + round, Check.outcomes(x), want.toString());
            }
        }
    }

    private static void eachParamHasItsOwn() {
        FixtureEngineY x = new FixtureEngineY(3, 3);
        x.defineFixture(3, 3);
        x.defineFixture(3, 0);
        for (int t = 0; t < 3; t++) {
            x.addTest(0, 0);
            x.requestFixture(t, 0);
        }
        x.setFailure(0, 0, 3);
        x.setFailure(0, 1, 1);
        x.setFailure(0, 2, 2);
        x.setFailure(1, 0, 1);
        x.run();
        check.due("tests", Check.tests(x), "0 0 0 1 1 1 2 2 2");
        check.due("params", Check.params(x, 0), "0 1 2 0 1 2 0 1 2");
        check.due("outcomes", Check.outcomes(x), "PEPPPEEPP");
    }

    private static void replacedAndCleared() {
        FixtureEngineY x = sixteenTests(0);
        x.setFailure(0, 0, 4);
        check.due("setFailure(0, 0, 2)", x.setFailure(0, 0, 2), true);
        x.run();
        check.due("replaced", Check.outcomes(x), "PEPPPPPPPPPPPPPP");
        check.due("setFailure(0, 0, 2) again", x.setFailure(0, 0, 2), true);
        x.run();
        check.due("set again", Check.outcomes(x), "PEPPPPPPPPPPPPPP");
        check.due("setFailure(0, 0, 0)", x.setFailure(0, 0, 0), true);
        x.run();
        check.due("cleared", Check.outcomes(x), "PPPPPPPPPPPPPPPP");
    }

    private static void falseChangesNothing() {
        FixtureEngineY x = sixteenTests(2);
        x.defineFixture(3, 2);
        x.requestFixture(3, 1);
        x.setFailure(0, 1, 2);
        x.run();
        String before = Check.results(x);
        check.due("setFailure(0, 2, 1)", x.setFailure(0, 2, 1), false);
        check.due("setFailure(0, 3, 1)", x.setFailure(0, 3, 1), false);
        check.due("setFailure(1, -1, 1)", x.setFailure(1, -1, 1), false);
        check.due("setFailure(1, -2, 1)", x.setFailure(1, -2, 1), false);
        check.due("setFailure(0, 1, -1)", x.setFailure(0, 1, -1), false);
        check.due("setFailure(0, 1, 16)", x.setFailure(0, 1, 16), false);
        check.due("setFailure(2, 0, 1)", x.setFailure(2, 0, 1), false);
        check.due("setFailure(-1, 3, 1)", x.setFailure(-1, 3, 1), false);
        check.due("results after refused calls", Check.results(x), before);
        x.run();
        check.due("a new run after refused calls", Check.results(x), before);
        x.defineFixture(3, 0);
        x.requestFixture(0, 2);
        x.run();
        check.due("fixture 2 never fails", x.itemOutcome(0), FixtureEngineY.OUTCOME_PASS);
    }

    private static void earlierResultsStay() {
        FixtureEngineY x = sixteenTests(0);
        x.run();
        String before = Check.results(x);
        check.due("setFailure(0, 0, 1)", x.setFailure(0, 0, 1), true);
        check.due("results after the call", Check.results(x), before);
        x.run();
        check.due("outcomes of the next run", Check.outcomes(x), "EPPPPPPPPPPPPPPP");
    }

    private static FixtureEngineY sixteenTests(int paramCount) {
        FixtureEngineY x = new FixtureEngineY(3, 16);
        x.defineFixture(3, paramCount);
        for (int t = 0; t < 16; t++) {
            x.addTest(0, 0);
            x.requestFixture(t, 0);
        }
        return x;
    }
}
