import java.util.function.Function;
import java.util.function.Supplier;

/** Finds out all that an engine holds: what it tells now, and what it makes of calls to come. Uses the engine up. */
final class Probe {
    private Probe() {
    }

    /** After a refused call an engine must be as one that did not get the call, as far as a probe can tell. */
    static void refused(Check check, String name, Supplier<FixtureEngineY> made,
            Function<FixtureEngineY, Object> call, Object answer) {
        FixtureEngineY x = made.get();
        check.due(name, call.apply(x), answer);
        check.due(name + " changes nothing", of(x).equals(of(made.get())), true);
    }

    static String of(FixtureEngineY x) {
        StringBuilder text = new StringBuilder(Check.results(x));
        text.append('\n').append(x.run()).append(' ').append(Check.results(x)).append('\n');
        fillUp(x, text);
        text.append('\n').append(x.run()).append(' ').append(Check.results(x)).append('\n');
        // Last, because with every dependency and request in place no run would be taken any more.
        for (int f = 0; f < 12; f++) {
            for (int dep = 0; dep < f; dep++) {
                text.append(x.addDependency(f, dep) ? 'd' : '-');
            }
        }
        for (int t = 0; t < 16; t++) {
            for (int f = 0; f < 12; f++) {
                text.append(x.requestFixture(t, f) ? 'r' : '-');
            }
        }
        return text.toString();
    }

    /** New fixtures and tests up to the capacities, the new tests requesting the new fixtures. */
    private static void fillUp(FixtureEngineY x, StringBuilder text) {
        int firstFixture = x.defineFixture(3, 0);
        int last = firstFixture;
        for (int f = firstFixture; f >= 0; f = x.defineFixture(3, 0)) {
            text.append(" f").append(f);
            last = f;
        }
        for (int t = x.addTest(3, 3); t >= 0; t = x.addTest(3, 3)) {
            text.append(" t").append(t);
            for (int f = firstFixture; f >= 0 && f <= last; f++) {
                text.append(x.requestFixture(t, f) ? 'r' : '-');
            }
        }
    }
}
