import java.util.ArrayList;
import java.util.List;
import java.util.function.Function;

/** "A refused call changes nothing": for each method that can refuse, in every state. */
public final class RefusedCallsTest {
    private static final int[] INTS = {Integer.MIN_VALUE, -1, 0, 1, 2, 3, 4, 5, 6, 12, 16, 32, Integer.MAX_VALUE};

    private record Call(String name, Function<FixtureEngineY, Object> made) {
    }

    private static final Check check = new Check();

    public static void main(String[] args) {
        for (Scene scene : Scene.values()) {
            refusedOnesChangeNothing(scene, definingFixtures());
            refusedOnesChangeNothing(scene, addingDependencies());
            refusedOnesChangeNothing(scene, scriptingFailures());
            refusedOnesChangeNothing(scene, addingTests());
            refusedOnesChangeNothing(scene, requestingFixtures());
            allRefusedOnesTogetherChangeNothing(scene);
        }
        refusedRunsChangeNothing(Scene.TOO_LARGE);
        refusedRunsChangeNothing(Scene.TOO_LARGE_AFTER_A_RUN);
        check.finish();
    }

    /** Which calls are to be refused is the matter of the other tests; here the answer tells it. */
    private static void refusedOnesChangeNothing(Scene scene, List<Call> calls) {
        String untouched = Probe.of(scene.engine());
        int refused = 0;
        for (Call call : calls) {
            FixtureEngineY x = scene.engine();
            if (isRefusal(call.made.apply(x))) {
                refused++;
                check.due(scene + ", " + call.name + " changes nothing", Probe.of(x).equals(untouched), true);
            }
        }
        check.due(scene + ", " + calls.get(0).name + " and the like: some are refused", refused > 0, true);
    }

    private static void allRefusedOnesTogetherChangeNothing(Scene scene) {
        List<Call> calls = definingFixtures();
        calls.addAll(addingDependencies());
        calls.addAll(scriptingFailures());
        calls.addAll(addingTests());
        calls.addAll(requestingFixtures());
        FixtureEngineY x = scene.engine();
        for (Call call : calls) {
            if (isRefusal(call.made.apply(scene.engine()))) {
                call.made.apply(x);
            }
        }
        check.due(scene + ", all refused calls change nothing",
            Probe.of(x).equals(Probe.of(scene.engine())), true);
    }

    private static void refusedRunsChangeNothing(Scene scene) {
        FixtureEngineY x = scene.engine();
        String results = Check.results(x);
        for (int n = 0; n < 5; n++) {
            check.due(scene + ", run()", x.run(), FixtureEngineY.RUN_TOO_MANY);
            check.due(scene + ", results", Check.results(x), results);
        }
        check.due(scene + ", refused runs change nothing",
            Probe.of(x).equals(Probe.of(scene.engine())), true);
    }

    private static boolean isRefusal(Object answer) {
        return answer.equals(-1) || answer.equals(false);
    }

    private static List<Call> definingFixtures() {
        List<Call> calls = new ArrayList<>();
        for (int a : INTS) {
            for (int b : INTS) {
                calls.add(new Call("defineFixture(" + a + ", " + b + ")", x -> x.defineFixture(a, b)));
            }
        }
        return calls;
    }

    private static List<Call> addingDependencies() {
        List<Call> calls = new ArrayList<>();
        for (int a : INTS) {
            for (int b : INTS) {
                calls.add(new Call("addDependency(" + a + ", " + b + ")", x -> x.addDependency(a, b)));
            }
        }
        return calls;
    }

    private static List<Call> scriptingFailures() {
        List<Call> calls = new ArrayList<>();
        for (int f : INTS) {
            for (int param : INTS) {
                for (int attempt : new int[] {-1, 0, 1, 2, 15, 16}) {
                    calls.add(new Call("setFailure(" + f + ", " + param + ", " + attempt + ")",
                        x -> x.setFailure(f, param, attempt)));
                }
            }
        }
        return calls;
    }

    private static List<Call> addingTests() {
        List<Call> calls = new ArrayList<>();
        for (int a : INTS) {
            for (int b : INTS) {
                calls.add(new Call("addTest(" + a + ", " + b + ")", x -> x.addTest(a, b)));
            }
        }
        return calls;
    }

    private static List<Call> requestingFixtures() {
        List<Call> calls = new ArrayList<>();
        for (int a : INTS) {
            for (int b : INTS) {
                calls.add(new Call("requestFixture(" + a + ", " + b + ")", x -> x.requestFixture(a, b)));
            }
        }
        return calls;
    }
}
