/** An engine and a model that get the same calls; the answers of both are compared. */
final class Pair {
    final FixtureEngineY engine;
    final Model model;
    private final Check check;
    private final String name;

    Pair(Check check, String name, int fixtureCap, int testCap) {
        this.check = check;
        this.name = name;
        engine = new FixtureEngineY(fixtureCap, testCap);
        model = new Model(fixtureCap, testCap);
    }

    void defineFixture(int scope, int paramCount) {
        due("defineFixture(" + scope + ", " + paramCount + ")",
            engine.defineFixture(scope, paramCount), model.defineFixture(scope, paramCount));
    }

    void addDependency(int f, int dep) {
        due("addDependency(" + f + ", " + dep + ")", engine.addDependency(f, dep), model.addDependency(f, dep));
    }

    void setFailure(int f, int param, int attempt) {
        due("setFailure(" + f + ", " + param + ", " + attempt + ")",
            engine.setFailure(f, param, attempt), model.setFailure(f, param, attempt));
    }

    void addTest(int module, int cls) {
        due("addTest(" + module + ", " + cls + ")", engine.addTest(module, cls), model.addTest(module, cls));
    }

    void requestFixture(int t, int f) {
        due("requestFixture(" + t + ", " + f + ")", engine.requestFixture(t, f), model.requestFixture(t, f));
    }

    int run() {
        int want = model.run();
        due("run()", engine.run(), want);
        return want;
    }

    void compareResults() {
        due("itemCount()", engine.itemCount(), model.itemCount());
        due("eventCount()", engine.eventCount(), model.eventCount());
        for (int i = -1; i <= 65; i++) {
            due("itemTest(" + i + ")", engine.itemTest(i), model.itemTest(i));
            due("itemOutcome(" + i + ")", engine.itemOutcome(i), model.itemOutcome(i));
            for (int f = -1; f <= 13; f++) {
                due("itemParam(" + i + ", " + f + ")", engine.itemParam(i, f), model.itemParam(i, f));
            }
        }
        for (int e = -1; e <= 257; e++) {
            due("event(" + e + ")", engine.event(e), model.event(e));
        }
    }

    private void due(String call, Object got, Object want) {
        // The name is joined only for a wrong answer: there are millions of right ones.
        check.due(got.equals(want) ? call : name + ": " + call, got, want);
    }
}
