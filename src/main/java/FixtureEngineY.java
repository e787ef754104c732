public final class FixtureEngineY {
    public static final int SCOPE_SESSION = 0;
    public static final int SCOPE_MODULE = 1;
    public static final int SCOPE_CLASS = 2;
    public static final int SCOPE_FUNCTION = 3;
    public static final int OUTCOME_PASS = 1;
    public static final int OUTCOME_ERROR = 2;
    public static final int EVENT_SETUP = 1;
    public static final int EVENT_TEARDOWN = 2;
    public static final int EVENT_SETUP_FAIL = 3;
    public static final int RUN_TOO_MANY = -1;
    public static final int MAX_ITEMS = 64;
    public static final int LOG_CAPACITY = 256;
    public static final int MAX_PARAMS = 3;
    public static final int MAX_ATTEMPT = 15;

    private static final int LEAST_FIXTURE_CAP = 2;
    private static final int GREATEST_FIXTURE_CAP = 12;
    private static final int LEAST_TEST_CAP = 1;
    private static final int GREATEST_TEST_CAP = 16;
    private static final int GREATEST_MODULE = 3;
    private static final int GREATEST_CLASS = 3;
    private static final int PARAM_SLOTS = GREATEST_FIXTURE_CAP * MAX_PARAMS;

    private static final int REFUSED = -1;
    private static final int NO_ANSWER = -1;
    private static final int NOT_ALIVE = -1;

    // Widths that hold every value there is. A parameter value is kept as param + 1,
    // so that -1 (outside the closure) is 0: what no run has assigned, and first in the order.
    private static final int PARAM_BITS = 2;
    private static final int PARAM_MASK = 3;
    private static final int MODULE_BITS = 2;
    private static final int CLASS_BITS = 2;
    private static final int TEST_BITS = 4;

    private final int fixtureCap;
    private final int testCap;

    // Sets of fixtures (dependencies, requests, closures) are bit sets: bit f stands for fixture f.
    private int fixtures;
    private final int[] scopeOf = new int[GREATEST_FIXTURE_CAP];
    private final int[] paramCountOf = new int[GREATEST_FIXTURE_CAP];
    private final int[] dependenciesOf = new int[GREATEST_FIXTURE_CAP];
    private final int[] failingAttempt = new int[PARAM_SLOTS];

    private int tests;
    private final int[] moduleOf = new int[GREATEST_TEST_CAP];
    private final int[] classOf = new int[GREATEST_TEST_CAP];
    private final int[] requestsOf = new int[GREATEST_TEST_CAP];

    // The results: copies of what the getters need, so that later definitions can't alter them.
    private int items;
    private final int[] testOfItem = new int[MAX_ITEMS];
    private final int[] paramsOfItem = new int[MAX_ITEMS];
    private final long[] keyOfItem = new long[MAX_ITEMS];
    private final int[] outcomeOfItem = new int[MAX_ITEMS];
    private int events;
    private final int[] log = new int[LOG_CAPACITY];

    // The state of an execution, of no meaning between two runs.
    private int stamps;
    private final int[] attempts = new int[PARAM_SLOTS];
    private final int[] aliveParam = new int[GREATEST_FIXTURE_CAP];
    private final int[] stampOf = new int[GREATEST_FIXTURE_CAP];

    public FixtureEngineY(int fixtureCap, int testCap) {
        this.fixtureCap = clamp(fixtureCap, LEAST_FIXTURE_CAP, GREATEST_FIXTURE_CAP);
        this.testCap = clamp(testCap, LEAST_TEST_CAP, GREATEST_TEST_CAP);
    }

    public int defineFixture(int scope, int paramCount) {
        if (scope < SCOPE_SESSION || scope > SCOPE_FUNCTION) {
            return REFUSED;
        }
        if (paramCount < 0 || paramCount > MAX_PARAMS) {
            return REFUSED;
        }
        if (fixtures >= fixtureCap) {
            return REFUSED;
        }
        int f = fixtures;
        scopeOf[f] = scope;
        paramCountOf[f] = paramCount;
        fixtures++;
        return f;
    }

    public boolean addDependency(int f, int dep) {
        if (!isFixture(f) || !isFixture(dep)) {
            return false;
        }
        if (dep >= f || scopeOf[dep] > scopeOf[f] || contains(dependenciesOf[f], dep)) {
            return false;
        }
        dependenciesOf[f] |= 1 << dep;
        return true;
    }

    public boolean setFailure(int f, int param, int attempt) {
        if (!isFixture(f)) {
            return false;
        }
        if (param < 0 || param >= valueCount(f)) {
            return false;
        }
        if (attempt < 0 || attempt > MAX_ATTEMPT) {
            return false;
        }
        failingAttempt[slotOf(f, param)] = attempt;
        return true;
    }

    public int addTest(int module, int cls) {
        if (module < 0 || module > GREATEST_MODULE) {
            return REFUSED;
        }
        if (cls < 0 || cls > GREATEST_CLASS) {
            return REFUSED;
        }
        if (tests >= testCap) {
            return REFUSED;
        }
        int t = tests;
        moduleOf[t] = module;
        classOf[t] = cls;
        tests++;
        return t;
    }

    public boolean requestFixture(int t, int f) {
        if (t < 0 || t >= tests || !isFixture(f)) {
            return false;
        }
        if (contains(requestsOf[t], f)) {
            return false;
        }
        requestsOf[t] |= 1 << f;
        return true;
    }

    public int run() {
        // Counted before anything is written: a refused run must leave the old results whole.
        if (countAllItems() > MAX_ITEMS) {
            return RUN_TOO_MANY;
        }
        collectItems();
        sortItems();
        executeItems();
        return items;
    }

    public int itemCount() {
        return items;
    }

    public int itemTest(int item) {
        return isItem(item) ? testOfItem[item] : NO_ANSWER;
    }

    public int itemParam(int item, int f) {
        // A fixture defined after the run needs no check of its own: its bits are still 0, which reads -1.
        return isItem(item) && isFixture(f) ? paramIn(paramsOfItem[item], f) : NO_ANSWER;
    }

    public int itemOutcome(int item) {
        return isItem(item) ? outcomeOfItem[item] : NO_ANSWER;
    }

    public int eventCount() {
        return events;
    }

    public int event(int index) {
        return index >= 0 && index < events && index < LOG_CAPACITY ? log[index] : NO_ANSWER;
    }

    private static int clamp(int value, int least, int greatest) {
        if (value < least) {
            return least;
        }
        return value > greatest ? greatest : value;
    }

    private static boolean contains(int set, int f) {
        return ((set >> f) & 1) != 0;
    }

    private static int slotOf(int f, int param) {
        return f * MAX_PARAMS + param;
    }

    private static int paramIn(int params, int f) {
        return ((params >> (f * PARAM_BITS)) & PARAM_MASK) - 1;
    }

    private boolean isFixture(int f) {
        return f >= 0 && f < fixtures;
    }

    private boolean isItem(int item) {
        return item >= 0 && item < items;
    }

    private int valueCount(int f) {
        return paramCountOf[f] >= 1 ? paramCountOf[f] : 1;
    }

    private int closureOf(int t) {
        int closure = requestsOf[t];
        // Dependencies have smaller ids, so one pass downwards meets every member after its dependants.
        for (int f = fixtures - 1; f >= 0; f--) {
            if (contains(closure, f)) {
                closure |= dependenciesOf[f];
            }
        }
        return closure;
    }

    private int countItems(int closure) {
        int count = 1;
        for (int f = 0; f < fixtures; f++) {
            if (contains(closure, f)) {
                count *= valueCount(f);
            }
        }
        return count;
    }

    private int countAllItems() {
        int count = 0;
        for (int t = 0; t < tests; t++) {
            int closure = closureOf(t);
            count += countItems(closure);
        }
        return count;
    }

    private void collectItems() {
        items = 0;
        for (int t = 0; t < tests; t++) {
            int closure = closureOf(t);
            int count = countItems(closure);
            for (int n = 0; n < count; n++) {
                int params = assignment(closure, n);
                testOfItem[items] = t;
                paramsOfItem[items] = params;
                keyOfItem[items] = sortKey(t, params);
                items++;
            }
        }
    }

    // The n-th way to give values to a closure: n read as a number with one digit for each fixture.
    private int assignment(int closure, int n) {
        int params = 0;
        int rest = n;
        for (int f = 0; f < fixtures; f++) {
            if (contains(closure, f)) {
                int values = valueCount(f);
                params |= (rest % values + 1) << (f * PARAM_BITS);
                rest /= values;
            }
        }
        return params;
    }

    // All keys of a run have the same fields in the same widths, so numbers compare as the sequences do.
    private long sortKey(int t, int params) {
        long key = appendParams(0L, SCOPE_SESSION, params);
        key = (key << MODULE_BITS) | moduleOf[t];
        key = appendParams(key, SCOPE_MODULE, params);
        key = (key << CLASS_BITS) | classOf[t];
        key = appendParams(key, SCOPE_CLASS, params);
        key = (key << TEST_BITS) | t;
        return appendParams(key, SCOPE_FUNCTION, params);
    }

    private long appendParams(long key, int scope, int params) {
        long longer = key;
        for (int f = 0; f < fixtures; f++) {
            if (scopeOf[f] == scope && paramCountOf[f] >= 1) {
                longer = (longer << PARAM_BITS) | (paramIn(params, f) + 1);
            }
        }
        return longer;
    }

    private void sortItems() {
        for (int i = 1; i < items; i++) {
            int test = testOfItem[i];
            int params = paramsOfItem[i];
            long key = keyOfItem[i];
            int place = i;
            while (place > 0 && keyOfItem[place - 1] > key) {
                testOfItem[place] = testOfItem[place - 1];
                paramsOfItem[place] = paramsOfItem[place - 1];
                keyOfItem[place] = keyOfItem[place - 1];
                place--;
            }
            testOfItem[place] = test;
            paramsOfItem[place] = params;
            keyOfItem[place] = key;
        }
    }

    private void executeItems() {
        clearExecution();
        for (int i = 0; i < items; i++) {
            outcomeOfItem[i] = setUpItem(i) ? OUTCOME_PASS : OUTCOME_ERROR;
            tearDownAfter(i);
        }
    }

    private void clearExecution() {
        events = 0;
        stamps = 0;
        for (int s = 0; s < PARAM_SLOTS; s++) {
            attempts[s] = 0;
        }
        for (int f = 0; f < GREATEST_FIXTURE_CAP; f++) {
            aliveParam[f] = NOT_ALIVE;
        }
    }

    private boolean setUpItem(int item) {
        for (int f = 0; f < fixtures; f++) {
            int param = paramIn(paramsOfItem[item], f);
            if (param >= 0 && aliveParam[f] != param && !setUpFixture(item, f, param)) {
                return false;
            }
        }
        return true;
    }

    private boolean setUpFixture(int item, int f, int param) {
        int slot = slotOf(f, param);
        attempts[slot]++;
        if (attempts[slot] == failingAttempt[slot]) {
            logEvent(EVENT_SETUP_FAIL, item, f, param);
            return false;
        }
        logEvent(EVENT_SETUP, item, f, param);
        stamps++;
        aliveParam[f] = param;
        stampOf[f] = stamps;
        return true;
    }

    private void tearDownAfter(int item) {
        int ending = endingAfter(item);
        for (int n = 0; n < fixtures && ending != 0; n++) {
            int g = latestOf(ending);
            logEvent(EVENT_TEARDOWN, item, g, aliveParam[g]);
            aliveParam[g] = NOT_ALIVE;
            ending &= ~(1 << g);
        }
    }

    private int endingAfter(int item) {
        int ending = 0;
        // Dependants have greater ids, so one pass upwards reaches all that must join.
        for (int g = 0; g < fixtures; g++) {
            if (aliveParam[g] == NOT_ALIVE) {
                continue;
            }
            if ((dependenciesOf[g] & ending) != 0 || endsByItself(item, g)) {
                ending |= 1 << g;
            }
        }
        return ending;
    }

    private boolean endsByItself(int item, int g) {
        int next = item + 1;
        if (scopeOf[g] == SCOPE_FUNCTION || next >= items) {
            return true;
        }
        int wanted = paramIn(paramsOfItem[next], g);
        if (wanted >= 0 && wanted != aliveParam[g]) {
            return true;
        }
        boolean sameModule = moduleOf[testOfItem[item]] == moduleOf[testOfItem[next]];
        boolean sameClass = sameModule && classOf[testOfItem[item]] == classOf[testOfItem[next]];
        return (scopeOf[g] == SCOPE_CLASS && !sameClass) || (scopeOf[g] == SCOPE_MODULE && !sameModule);
    }

    private int latestOf(int set) {
        int latest = 0;
        int greatest = 0;
        for (int g = 0; g < fixtures; g++) {
            if (contains(set, g) && stampOf[g] > greatest) {
                latest = g;
                greatest = stampOf[g];
            }
        }
        return latest;
    }

    private void logEvent(int kind, int item, int f, int param) {
        if (events < LOG_CAPACITY) {
            log[events] = kind * 100000 + item * 1000 + f * 10 + param;
        }
        events++;
    }
}
