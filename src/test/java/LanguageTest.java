import java.io.IOException;
import java.lang.reflect.Constructor;
import java.lang.reflect.Field;
import java.lang.reflect.Method;
import java.lang.reflect.Modifier;
import java.nio.file.Files;
import java.nio.file.Path;
import java.util.ArrayDeque;
import java.util.Deque;
import java.util.Map;
import java.util.Set;
import java.util.TreeMap;
import java.util.TreeSet;
import java.util.regex.Matcher;
import java.util.regex.Pattern;

/** The public face, and those rules of LANGUAGE.md that can be seen without reading the code's sense. */
public final class LanguageTest {
    private static final Check check = new Check();
    private static final Class<?> engine = FixtureEngineY.class;

    private static final Set<String> FACE = Set.of(
        "int SCOPE_SESSION = 0", "int SCOPE_MODULE = 1", "int SCOPE_CLASS = 2", "int SCOPE_FUNCTION = 3",
        "int OUTCOME_PASS = 1", "int OUTCOME_ERROR = 2",
        "int EVENT_SETUP = 1", "int EVENT_TEARDOWN = 2", "int EVENT_SETUP_FAIL = 3",
        "int RUN_TOO_MANY = -1", "int MAX_ITEMS = 64", "int LOG_CAPACITY = 256", "int MAX_PARAMS = 3",
        "int MAX_ATTEMPT = 15",
        "FixtureEngineY(int, int)", "int defineFixture(int, int)", "boolean addDependency(int, int)",
        "boolean setFailure(int, int, int)", "int addTest(int, int)", "boolean requestFixture(int, int)", "int run()",
        "int itemCount()", "int itemTest(int)", "int itemParam(int, int)", "int itemOutcome(int)",
        "int eventCount()", "int event(int)");

    private static final String[] BARRED = {
        "package", "import", "throw", "throws", "try", "catch", "synchronized", "assert", "instanceof", "null", "float",
        "double", "String", "Object", "Math", "Integer", "Long", "System", "Arrays", "interface", "enum", "protected",
        "getClass", "hashCode", "equals", "toString", "clone"
    };

    public static void main(String[] args) throws Exception {
        String text = Files.readString(Path.of("src/main/java/FixtureEngineY.java"));
        String code = text.replaceAll("//[^\n]*", "").replaceAll("(?s)/\\*.*?\\*/", "");
        Map<String, String> bodies = bodies(code);
        publicFace();
        fields();
        methods();
        words(code);
        arrays(code, bodies);
        check.due("calls inside the arguments of another call", callsInsideCalls(code), "");
        lengths(bodies);
        depthOfCalls(bodies);
        check.finish();
    }

    private static void publicFace() throws IllegalAccessException {
        Set<String> seen = new TreeSet<>();
        for (Field field : engine.getDeclaredFields()) {
            if (!Modifier.isPrivate(field.getModifiers())) {
                check.due(field + " is a constant", field.getModifiers(),
                    Modifier.PUBLIC | Modifier.STATIC | Modifier.FINAL);
                seen.add(field.getType() + " " + field.getName() + " = " + field.get(null));
            }
        }
        for (Constructor<?> made : engine.getDeclaredConstructors()) {
            check.due(made + " is public", made.getModifiers(), Modifier.PUBLIC);
            seen.add(made.getName() + parameters(made.getParameterTypes()));
        }
        for (Method method : engine.getDeclaredMethods()) {
            if (!Modifier.isPrivate(method.getModifiers())) {
                check.due(method + " is public", method.getModifiers(), Modifier.PUBLIC);
                seen.add(method.getReturnType() + " " + method.getName() + parameters(method.getParameterTypes()));
            }
        }
        check.due("the public face", seen, new TreeSet<>(FACE));
        check.due("the class's modifiers", engine.getModifiers(), Modifier.PUBLIC | Modifier.FINAL);
        check.due("nested classes", engine.getDeclaredClasses().length, 0);
    }

    private static String parameters(Class<?>[] types) {
        StringBuilder text = new StringBuilder();
        for (Class<?> type : types) {
            text.append(text.length() == 0 ? "" : ", ").append(type);
        }
        return "(" + text + ")";
    }

    private static void fields() {
        int variables = 0;
        for (Field field : engine.getDeclaredFields()) {
            Class<?> type = field.getType();
            if (Modifier.isStatic(field.getModifiers())) {
                check.due(field + " is a constant", Modifier.isFinal(field.getModifiers())
                    && (type == int.class || type == long.class), true);
            } else {
                variables++;
                check.due(field + " has a plain type", plain(type), true);
            }
        }
        check.due("at most forty fields", variables <= 40, true);
    }

    private static void methods() {
        Set<String> open = new TreeSet<>();
        for (Method method : engine.getDeclaredMethods()) {
            if (Modifier.isPublic(method.getModifiers())) {
                open.add(method.getName());
            }
        }
        for (Method method : engine.getDeclaredMethods()) {
            check.due(method + " takes at most seven", method.getParameterCount() <= 7, true);
            check.due(method + " answers no array", method.getReturnType().isArray(), false);
            check.due(method + " bears a public name", Modifier.isPrivate(method.getModifiers())
                && open.contains(method.getName()), false);
            for (Class<?> type : method.getParameterTypes()) {
                check.due(method + " takes plain types", plain(type), true);
            }
        }
    }

    private static boolean plain(Class<?> type) {
        Class<?> element = type.isArray() ? type.getComponentType() : type;
        return element.isPrimitive() && element != float.class && element != double.class;
    }

    private static void words(String code) {
        for (String word : BARRED) {
            boolean found = Pattern.compile("\\b" + word + "\\b").matcher(code).find();
            check.due("the code has the word " + word, found, false);
        }
        for (String sign : new String[] {"::", "\"", "@"}) {
            check.due("the code has the sign " + sign, code.contains(sign), false);
        }
        for (String line : code.split("\n")) {
            if (line.contains("->")) {
                boolean inSwitch = line.matches("\\s*(case\\b.*|default)\\s*->.*");
                check.due("an arrow stands in a switch: " + line.trim(), inSwitch, true);
            }
        }
    }

    /** No method but the constructor makes an array or puts one into a field. */
    private static void arrays(String code, Map<String, String> bodies) {
        Matcher made = Pattern.compile("\\bnew\\b\\s*([^;]*);").matcher(code);
        while (made.find()) {
            check.due("a length that is a constant: " + made.group(), made.group(1).matches("\\w+\\[\\w+\\]"), true);
        }
        for (String name : bodies.keySet()) {
            if (name.equals(engine.getSimpleName())) {
                continue;
            }
            String body = bodies.get(name);
            check.due(name + " makes an array", Pattern.compile("\\bnew\\b").matcher(body).find(), false);
            for (Field field : engine.getDeclaredFields()) {
                boolean assigns = Pattern.compile("\\b" + field.getName() + "\\s*=[^=]").matcher(body).find();
                check.due(name + " assigns to " + field, field.getType().isArray() && assigns, false);
            }
        }
    }

    /** Names each call that stands between the brackets of another one. */
    private static String callsInsideCalls(String code) {
        StringBuilder names = new StringBuilder();
        Deque<Boolean> brackets = new ArrayDeque<>();
        Matcher sign = Pattern.compile("(\\w*)\\s*\\(|\\)").matcher(code);
        while (sign.find()) {
            if (sign.group().equals(")")) {
                brackets.pop();
                continue;
            }
            String name = sign.group(1);
            boolean call = !name.isEmpty() && !Set.of("if", "for", "while", "switch", "return").contains(name);
            if (call && brackets.contains(true)) {
                names.append(name).append(' ');
            }
            brackets.push(call);
        }
        return names.toString();
    }

    private static void lengths(Map<String, String> bodies) {
        for (String name : bodies.keySet()) {
            check.due(name + " is short", bodies.get(name).lines().count() <= 60, true);
        }
    }

    private static void depthOfCalls(Map<String, String> bodies) {
        Map<String, Integer> depths = new TreeMap<>();
        for (String name : bodies.keySet()) {
            depths.put(name, 1);
        }
        // Without recursion no depth can grow any more after as many rounds as there are methods.
        boolean grown = true;
        for (int round = 0; round <= bodies.size() && grown; round++) {
            grown = false;
            for (String caller : bodies.keySet()) {
                int depth = deepestCalled(bodies.get(caller), depths) + 1;
                grown |= depths.put(caller, depth) != depth;
            }
        }
        check.due("there is recursion", grown, false);
        for (String name : depths.keySet()) {
            check.due(name + " calls at most six deep", depths.get(name) <= 6, true);
        }
    }

    private static int deepestCalled(String body, Map<String, Integer> depths) {
        int deepest = 0;
        for (String name : depths.keySet()) {
            if (Pattern.compile("\\b" + name + "\\s*\\(").matcher(body).find()) {
                deepest = Math.max(deepest, depths.get(name));
            }
        }
        return deepest;
    }

    /** What stands between the braces of each method and of the constructor, by name. */
    private static Map<String, String> bodies(String code) {
        Map<String, String> bodies = new TreeMap<>();
        Matcher head = Pattern.compile("(\\w+)\\([^()]*\\)\\s*\\{").matcher(code);
        int end = 0;
        while (head.find(end)) {
            int depth = 1;
            for (end = head.end(); depth > 0; end++) {
                depth += code.charAt(end) == '{' ? 1 : code.charAt(end) == '}' ? -1 : 0;
            }
            bodies.merge(head.group(1), code.substring(head.end(), end - 1), String::concat);
        }
        Set<String> names = new TreeSet<>(Set.of(engine.getSimpleName()));
        for (Method method : engine.getDeclaredMethods()) {
            names.add(method.getName());
        }
        check.due("the methods that are found", bodies.keySet(), names);
        return bodies;
    }
}
