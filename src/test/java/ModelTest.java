/** Holds the engine against the model of the document over many runs of calls. */
public final class ModelTest {
    private static final Check check = new Check();
    private static int taken;
    private static int refused;
    private static int overfull;
    private static int failing;

    public static void main(String[] args) {
        for (int seed = 0; seed < 4000; seed++) {
            play(new RandomCalls(check, seed));
        }
        System.out.println(taken + " runs taken, " + refused + " refused, "
            + overfull + " with a log over the capacity, " + failing + " with an error");
        // Guards the test itself: each kind of run must come up often enough to mean something.
        check.due("many runs are taken", taken > 3000, true);
        check.due("many runs are refused", refused > 300, true);
        check.due("many logs are longer than is kept", overfull > 300, true);
        check.due("many runs have an error", failing > 1000, true);
        check.finish();
    }

    private static void play(RandomCalls calls) {
        for (int step = 0; step < calls.steps; step++) {
            calls.define();
            if (calls.dice.oneIn(50)) {
                run(calls.pair);
            }
            if (calls.dice.oneIn(40)) {
                calls.pair.compareResults();
            }
        }
        run(calls.pair);
    }

    private static void run(Pair pair) {
        int answer = pair.run();
        pair.compareResults();
        if (answer < 0) {
            refused++;
            return;
        }
        taken++;
        overfull += pair.engine.eventCount() > FixtureEngineY.LOG_CAPACITY ? 1 : 0;
        failing += Check.outcomes(pair.engine).contains("E") ? 1 : 0;
    }
}
