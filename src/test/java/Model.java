import java.util.ArrayList;
import java.util.Arrays;
import java.util.Collections;
import java.util.List;
import java.util.Set;
import java.util.TreeSet;

/** The document told once more, word by word and with the library's collections, to hold the engine against. */
final class Model {
    private static final class Fixture {
        int scope;
        int paramCount;
        final Set<Integer> dependencies = new TreeSet<>();
        final int[] failing = new int[3];
    }

    private static final class Test {
        int module;
        int cls;
        final Set<Integer> requests = new TreeSet<>();
    }

    private static final class Item {
        int test;
        int[] params;
        int outcome;
    }

    private final int fixtureCap;
    private final int testCap;
    private final List<Fixture> fixtures = new ArrayList<>();
    private final List<Test> tests = new ArrayList<>();
    private List<Item> items = new ArrayList<>();
    private List<int[]> events = new ArrayList<>();

    Model(int fixtureCap, int testCap) {
        this.fixtureCap = Math.min(12, Math.max(2, fixtureCap));
        this.testCap = Math.min(16, Math.max(1, testCap));
    }

    int defineFixture(int scope, int paramCount) {
        if (outside(scope, 0, 3) || outside(paramCount, 0, 3) || fixtures.size() == fixtureCap) {
            return -1;
        }
        Fixture fixture = new Fixture();
        fixture.scope = scope;
        fixture.paramCount = paramCount;
        fixtures.add(fixture);
        return fixtures.size() - 1;
    }

    boolean addDependency(int f, int dep) {
        if (outside(f, 0, fixtures.size() - 1) || outside(dep, 0, fixtures.size() - 1) || dep >= f) {
            return false;
        }
        return fixtures.get(dep).scope <= fixtures.get(f).scope && fixtures.get(f).dependencies.add(dep);
    }

    boolean setFailure(int f, int param, int attempt) {
        if (outside(f, 0, fixtures.size() - 1)
            || outside(param, 0, Math.max(fixtures.get(f).paramCount, 1) - 1) || outside(attempt, 0, 15)) {
            return false;
        }
        fixtures.get(f).failing[param] = attempt;
        return true;
    }

    int addTest(int module, int cls) {
        if (outside(module, 0, 3) || outside(cls, 0, 3) || tests.size() == testCap) {
            return -1;
        }
        Test test = new Test();
        test.module = module;
        test.cls = cls;
        tests.add(test);
        return tests.size() - 1;
    }

    boolean requestFixture(int t, int f) {
        return !outside(t, 0, tests.size() - 1) && !outside(f, 0, fixtures.size() - 1)
            && tests.get(t).requests.add(f);
    }

    int run() {
        List<Item> collected = new ArrayList<>();
        for (int t = 0; t < tests.size(); t++) {
            Set<Integer> closure = closure(t);
            int count = 1;
            for (int f : closure) {
                count *= Math.max(1, fixtures.get(f).paramCount);
            }
            if (collected.size() + count > 64) {
                return -1;
            }
            collect(t, closure, collected);
        }
        collected.sort((a, b) -> Arrays.compare(key(a), key(b)));
        items = collected;
        events = new ArrayList<>();
        execute();
        return items.size();
    }

    int itemCount() {
        return items.size();
    }

    int itemTest(int item) {
        return outside(item, 0, items.size() - 1) ? -1 : items.get(item).test;
    }

    int itemParam(int item, int f) {
        if (outside(item, 0, items.size() - 1) || outside(f, 0, items.get(item).params.length - 1)) {
            return -1;
        }
        return items.get(item).params[f];
    }

    int itemOutcome(int item) {
        return outside(item, 0, items.size() - 1) ? -1 : items.get(item).outcome;
    }

    int eventCount() {
        return events.size();
    }

    int event(int index) {
        if (outside(index, 0, Math.min(events.size(), 256) - 1)) {
            return -1;
        }
        int[] e = events.get(index);
        return e[0] * 100000 + e[1] * 1000 + e[2] * 10 + e[3];
    }

    int scope(int f) {
        return fixtures.get(f).scope;
    }

    Set<Integer> dependencies(int f) {
        return fixtures.get(f).dependencies;
    }

    int fixtureCount() {
        return fixtures.size();
    }

    int testCount() {
        return tests.size();
    }

    boolean sameClass(int t, int u) {
        return sameModule(t, u) && tests.get(t).cls == tests.get(u).cls;
    }

    boolean sameModule(int t, int u) {
        return tests.get(t).module == tests.get(u).module;
    }

    private static boolean outside(int value, int least, int greatest) {
        return value < least || value > greatest;
    }

    private Set<Integer> closure(int t) {
        Set<Integer> closure = new TreeSet<>(tests.get(t).requests);
        boolean grown = true;
        while (grown) {
            grown = false;
            for (int f : new ArrayList<>(closure)) {
                grown |= closure.addAll(fixtures.get(f).dependencies);
            }
        }
        return closure;
    }

    private void collect(int t, Set<Integer> closure, List<Item> collected) {
        int[] none = new int[fixtures.size()];
        Arrays.fill(none, -1);
        List<int[]> assignments = new ArrayList<>(List.of(none));
        for (int f : closure) {
            List<int[]> longer = new ArrayList<>();
            for (int[] assignment : assignments) {
                for (int p = 0; p < Math.max(1, fixtures.get(f).paramCount); p++) {
                    int[] with = assignment.clone();
                    with[f] = p;
                    longer.add(with);
                }
            }
            assignments = longer;
        }
        for (int[] assignment : assignments) {
            Item item = new Item();
            item.test = t;
            item.params = assignment;
            collected.add(item);
        }
    }

    private int[] key(Item item) {
        List<Integer> key = new ArrayList<>();
        addParams(key, item, 0);
        key.add(tests.get(item.test).module);
        addParams(key, item, 1);
        key.add(tests.get(item.test).cls);
        addParams(key, item, 2);
        key.add(item.test);
        addParams(key, item, 3);
        return key.stream().mapToInt(Integer::intValue).toArray();
    }

    private void addParams(List<Integer> key, Item item, int scope) {
        for (int f = 0; f < fixtures.size(); f++) {
            if (fixtures.get(f).paramCount >= 1 && fixtures.get(f).scope == scope) {
                key.add(item.params[f]);
            }
        }
    }

    private void execute() {
        int[][] attempts = new int[fixtures.size()][3];
        // The alive instances as {fixture, param}, the one with the least stamp first.
        List<int[]> alive = new ArrayList<>();
        for (int i = 0; i < items.size(); i++) {
            setUp(i, attempts, alive);
            tearDown(i, alive);
        }
    }

    private void setUp(int i, int[][] attempts, List<int[]> alive) {
        Item item = items.get(i);
        item.outcome = 2;
        for (int f : closure(item.test)) {
            int p = item.params[f];
            if (alive.stream().anyMatch(a -> a[0] == f && a[1] == p)) {
                continue;
            }
            attempts[f][p]++;
            if (attempts[f][p] == fixtures.get(f).failing[p]) {
                events.add(new int[] {3, i, f, p});
                return;
            }
            events.add(new int[] {1, i, f, p});
            if (alive.stream().anyMatch(a -> a[0] == f)) {
                throw new IllegalStateException("two instances of fixture " + f);
            }
            alive.add(new int[] {f, p});
        }
        item.outcome = 1;
    }

    private void tearDown(int i, List<int[]> alive) {
        Set<Integer> ending = new TreeSet<>();
        for (int[] instance : alive) {
            if (endsByItself(i, instance)) {
                ending.add(instance[0]);
            }
        }
        boolean grown = true;
        while (grown) {
            grown = false;
            for (int[] instance : alive) {
                if (!Collections.disjoint(fixtures.get(instance[0]).dependencies, ending)) {
                    grown |= ending.add(instance[0]);
                }
            }
        }
        for (int a = alive.size() - 1; a >= 0; a--) {
            if (ending.contains(alive.get(a)[0])) {
                events.add(new int[] {2, i, alive.get(a)[0], alive.get(a)[1]});
                alive.remove(a);
            }
        }
    }

    private boolean endsByItself(int i, int[] instance) {
        int scope = fixtures.get(instance[0]).scope;
        if (scope == 3 || i == items.size() - 1) {
            return true;
        }
        Item next = items.get(i + 1);
        if (scope == 2 && !sameClass(items.get(i).test, next.test)) {
            return true;
        }
        if (scope == 1 && !sameModule(items.get(i).test, next.test)) {
            return true;
        }
        return next.params[instance[0]] >= 0 && next.params[instance[0]] != instance[1];
    }
}
