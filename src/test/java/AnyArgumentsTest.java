/** "Every method accepts any int arguments": in every state, held against the model's answers. */
public final class AnyArgumentsTest {
    private static final Check check = new Check();

    public static void main(String[] args) {
        for (Scene scene : Scene.values()) {
            gettersTakeAnyInts(scene);
            definitionsTakeAnyInts(scene);
            failuresTakeAnyInts(scene);
        }
        check.finish();
    }

    private static void gettersTakeAnyInts(Scene scene) {
        Pair pair = scene.pair(check);
        for (int a : Check.ODD_INTS) {
            pair.itemTest(a);
            pair.itemOutcome(a);
            pair.event(a);
            for (int b : Check.ODD_INTS) {
                pair.itemParam(a, b);
            }
        }
        pair.compareResults();
    }

    /** Calls that are taken change the engine and the model alike, so the later calls meet many states. */
    private static void definitionsTakeAnyInts(Scene scene) {
        Pair pair = scene.pair(check);
        for (int a : Check.ODD_INTS) {
            for (int b : Check.ODD_INTS) {
                pair.defineFixture(a, b);
                pair.addDependency(a, b);
                pair.addTest(a, b);
                pair.requestFixture(a, b);
            }
            pair.compareResults();
            pair.run();
            pair.compareResults();
        }
    }

    private static void failuresTakeAnyInts(Scene scene) {
        Pair pair = scene.pair(check);
        for (int f : Check.ODD_INTS) {
            for (int param : Check.ODD_INTS) {
                for (int attempt : Check.ODD_INTS) {
                    pair.setFailure(f, param, attempt);
                }
            }
            pair.run();
            pair.compareResults();
        }
    }
}
