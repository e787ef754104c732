/** An engine and a model that get the same calls; the answers of both are compared. */
final class Pair {
    final FixtureEngineY engine;
    final Model model;
    private final Check check;
    private final String name;

    Pair(Check check, String name, int fixtureCap, int testCap) {
        this.check = check;
        this.name = name;
        engine = new FixtureEngineY(fixtureCap, testCap);
        model = new Model(fixtureCap, testCap);
    }

    void defineFixture(int scope, int paramCount) {
        due("defineFixture(" + scope + ", " + paramCount + ")",
            engine.defineFixture(scope, paramCount), model.defineFixture(scope, paramCount));
    }

    void addDependency(int f, int dep) {
        due("addDependency(" + f + ", " + dep + ")", engine.addDependency(f, dep), model.addDependency(f, dep));
    }

    void setFailure(int f, int param, int attempt) {
        due("setFailure(" + f + ", " + param + ", " + attempt + ")",
            engine.setFailure(f, param, attempt), model.setFailure(f, param, attempt));
    }

    void addTest(int module, int cls) {
        due("addTest(" + module + ", " + cls + ")", engine.addTest(module, cls), model.addTest(module, cls));
    }

    void requestFixture(int t, int f) {
        due("requestFixture(" + t + ", " + f + ")", engine.requestFixture(t, f), model.requestFixture(t, f));
    }

    int run() {
        int want = model.run();
        due("run()", engine.run(), want);
        return want;
    }

    void itemTest(int item) {
        due("itemTest(" + item + ")", engine.itemTest(item), model.itemTest(item));
    }

    void itemParam(int item, int f) {
        due("itemParam(" + item + ", " + f + ")", engine.itemParam(item, f), model.itemParam(item, f));
    }

    void itemOutcome(int item) {
        due("itemOutcome(" + item + ")", engine.itemOutcome(item), model.itemOutcome(item));
    }

    void event(int index) {
        due("event(" + index + ")", engine.event(index), model.event(index));
    }

    void compareResults() {
        due("itemCount()", engine.itemCount(), model.itemCount());
        due("eventCount()", engine.eventCount(), model.eventCount());
        for (int i = -1; i <= 65; i++) {
            itemTest(i);
            itemOutcome(i);
            for (int f = -1; f <= 13; f++) {
                itemParam(i, f);
            }
        }
        for (int e = -1; e <= 257; e++) {
            event(e);
        }
    }

    private void due(String call, Object got, Object want) {
        // The name is joined only for a wrong answer: there are millions of right ones.
        check.due(got.equals(want) ? call : name + ": " + call, got, want);
    }
}
