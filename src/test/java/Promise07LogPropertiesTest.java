import java.util.ArrayList;
import java.util.HashMap;
import java.util.List;
import java.util.Map;

/** The properties that the document tells of a log that is kept whole, looked for in many logs. */
public final class Promise07LogPropertiesTest {
    private static final Check check = new Check();
    private static int logs;
    private static int instances;

    /** One setup and its teardown: the events' numbers and the items that logged them. */
    private record Instance(int fixture, int param, int setup, int teardown, int firstItem, int lastItem) {
    }

    public static void main(String[] args) {
        for (int seed = 10000; seed < 12000; seed++) {
            RandomCalls calls = new RandomCalls(check, seed);
            for (int step = 0; step < calls.steps; step++) {
                calls.define();
            }
            FixtureEngineY x = calls.pair.engine;
            if (calls.pair.run() > 0 && x.eventCount() <= FixtureEngineY.LOG_CAPACITY) {
                lookAt("seed " + seed, x, calls.pair.model);
            }
        }
        check.due("many logs are looked at", logs > 1000 && instances > 10000, true);
        check.finish();
    }

    private static void lookAt(String name, FixtureEngineY x, Model definitions) {
        List<Instance> found = instancesOf(name, x);
        logs++;
        instances += found.size();
        for (Instance g : found) {
            for (Instance f : found) {
                if (definitions.dependencies(g.fixture).contains(f.fixture)
                    && f.setup < g.setup && g.setup < f.teardown) {
                    check.due(name + ": " + g + " ends before " + f, g.teardown < f.teardown, true);
                }
            }
        }
        for (int i = 0; i < x.itemCount(); i++) {
            for (int f = 0; f < definitions.fixtureCount(); f++) {
                if (x.itemOutcome(i) == FixtureEngineY.OUTCOME_PASS && x.itemParam(i, f) >= 0) {
                    check.due(name + ": item " + i + " had fixture " + f, covered(x, definitions, found, i, f), true);
                }
            }
        }
    }

    private static List<Instance> instancesOf(String name, FixtureEngineY x) {
        List<Instance> found = new ArrayList<>();
        Map<Integer, Integer> open = new HashMap<>();
        for (int e = 0; e < x.eventCount(); e++) {
            int kind = x.event(e) / 100000;
            int fixture = x.event(e) / 10 % 100;
            String what = name + ": event " + e + " (" + x.event(e) + ")";
            if (kind == FixtureEngineY.EVENT_TEARDOWN) {
                Integer setup = open.remove(fixture);
                check.due(what + " has a setup", setup != null, true);
                if (setup != null) {
                    int param = x.event(e) % 10;
                    check.due(what + " has the param of its setup", param, x.event(setup) % 10);
                    found.add(new Instance(fixture, param, setup, e, itemOf(x.event(setup)), itemOf(x.event(e))));
                }
            } else {
                check.due(what + " meets no alive instance", open.containsKey(fixture), false);
                if (kind == FixtureEngineY.EVENT_SETUP) {
                    open.put(fixture, e);
                }
            }
        }
        check.due(name + ": instances alive at the end", open.size(), 0);
        return found;
    }

    private static int itemOf(int event) {
        return event / 1000 % 100;
    }

    private static boolean covered(FixtureEngineY x, Model definitions, List<Instance> found, int i, int f) {
        for (Instance n : found) {
            if (n.fixture == f && n.param == x.itemParam(i, f) && n.firstItem <= i && n.lastItem >= i) {
                return keepsToItsScope(x, definitions, n);
            }
        }
        return false;
    }

    private static boolean keepsToItsScope(FixtureEngineY x, Model definitions, Instance n) {
        int scope = definitions.scope(n.fixture);
        boolean keeps = scope != FixtureEngineY.SCOPE_FUNCTION || n.firstItem == n.lastItem;
        for (int i = n.firstItem; i <= n.lastItem; i++) {
            int first = x.itemTest(n.firstItem);
            int test = x.itemTest(i);
            keeps &= scope != FixtureEngineY.SCOPE_CLASS || definitions.sameClass(first, test);
            keeps &= scope != FixtureEngineY.SCOPE_MODULE || definitions.sameModule(first, test);
        }
        return keeps;
    }
}
