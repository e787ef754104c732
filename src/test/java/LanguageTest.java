import java.io.IOException;
import java.lang.reflect.Constructor;
import java.lang.reflect.Field;
import java.lang.reflect.Method;
import java.lang.reflect.Modifier;
import java.nio.file.Files;
import java.nio.file.Path;
import java.util.ArrayDeque;
import java.util.Deque;
import java.util.Set;
import java.util.TreeSet;
import java.util.regex.Matcher;
import java.util.regex.Pattern;

/** The public face of the document, and those rules of LANGUAGE.md that can be seen without reading the code's sense. */
public final class LanguageTest {
    private static final Check check = new Check();
    private static final Class<?> engine = FixtureEngineY.class;

    private static final Set<String> FACE = Set.of(
        "int SCOPE_SESSION = 0", "int SCOPE_MODULE = 1", "int SCOPE_CLASS = 2", "int SCOPE_FUNCTION = 3",
        "int OUTCOME_PASS = 1", "int OUTCOME_ERROR = 2",
        "int EVENT_SETUP = 1", "int EVENT_TEARDOWN = 2", "int EVENT_SETUP_FAIL = 3",
        "int RUN_TOO_MANY = -1", "int MAX_ITEMS = 64", "int LOG_CAPACITY = 256", "int MAX_PARAMS = 3",
        "int MAX_ATTEMPT = 15",
        "FixtureEngineY(int, int)", "int defineFixture(int, int)", "boolean addDependency(int, int)",
        "boolean setFailure(int, int, int)", "int addTest(int, int)", "boolean requestFixture(int, int)", "int run()",
        "int itemCount()", "int itemTest(int)", "int itemParam(int, int)", "int itemOutcome(int)",
        "int eventCount()", "int event(int)");

    private static final String[] BARRED = {
        "package", "import", "throw", "throws", "try", "catch", "finally", "synchronized", "assert", "instanceof",
        "null", "float", "double", "String", "Object", "Math", "Integer", "Long", "System", "Arrays", "interface",
        "enum", "record", "protected", "volatile", "transient", "native", "var", "getClass", "hashCode", "equals",
        "toString", "clone", "super"
    };

    public static void main(String[] args) throws Exception {
        publicFace();
        fields();
        methods();
        source();
        check.finish();
    }

    private static void publicFace() throws IllegalAccessException {
        Set<String> seen = new TreeSet<>();
        for (Field field : engine.getDeclaredFields()) {
            if (!Modifier.isPrivate(field.getModifiers())) {
                check.due(field + " is a constant", field.getModifiers(),
                    Modifier.PUBLIC | Modifier.STATIC | Modifier.FINAL);
                seen.add(field.getType() + " " + field.getName() + " = " + field.get(null));
            }
        }
        for (Constructor<?> made : engine.getDeclaredConstructors()) {
            check.due(made + " is public", made.getModifiers(), Modifier.PUBLIC);
            seen.add(made.getName() + parameters(made.getParameterTypes()));
        }
        for (Method method : engine.getDeclaredMethods()) {
            if (!Modifier.isPrivate(method.getModifiers())) {
                check.due(method + " is public", method.getModifiers(), Modifier.PUBLIC);
                seen.add(method.getReturnType() + " " + method.getName() + parameters(method.getParameterTypes()));
            }
        }
        check.due("the public face", seen, new TreeSet<>(FACE));
        check.due("the class's modifiers", engine.getModifiers(), Modifier.PUBLIC | Modifier.FINAL);
        check.due("nested classes", engine.getDeclaredClasses().length, 0);
    }

    private static String parameters(Class<?>[] types) {
        StringBuilder text = new StringBuilder();
        for (Class<?> type : types) {
            text.append(text.length() == 0 ? "" : ", ").append(type);
        }
        return "(" + text + ")";
    }

    private static void fields() {
        int variables = 0;
        for (Field field : engine.getDeclaredFields()) {
            Class<?> type = field.getType();
            if (Modifier.isStatic(field.getModifiers())) {
                check.due(field + " is a constant", Modifier.isFinal(field.getModifiers())
                    && (type == int.class || type == long.class), true);
            } else {
                variables++;
                check.due(field + " has a plain type", plain(type), true);
                check.due(field + ", an array, is final",
                    type.isArray() && !Modifier.isFinal(field.getModifiers()), false);
            }
        }
        check.due("at most forty fields", variables <= 40, true);
    }

    private static void methods() {
        Set<String> open = new TreeSet<>();
        for (Method method : engine.getDeclaredMethods()) {
            if (Modifier.isPublic(method.getModifiers())) {
                open.add(method.getName());
            }
        }
        for (Method method : engine.getDeclaredMethods()) {
            check.due(method + " takes at most seven", method.getParameterCount() <= 7, true);
            check.due(method + " answers no array", method.getReturnType().isArray(), false);
            check.due(method + " bears a public name", Modifier.isPrivate(method.getModifiers())
                && open.contains(method.getName()), false);
            for (Class<?> type : method.getParameterTypes()) {
                check.due(method + " takes plain types", plain(type), true);
            }
        }
    }

    private static boolean plain(Class<?> type) {
        Class<?> element = type.isArray() ? type.getComponentType() : type;
        return element.isPrimitive() && element != float.class && element != double.class;
    }

    private static void source() throws IOException {
        String text = Files.readString(Path.of("src/main/java/FixtureEngineY.java"));
        String code = text.replaceAll("//[^\n]*", "").replaceAll("(?s)/\\*.*?\\*/", "");
        for (String word : BARRED) {
            check.due("the code has the word " + word, Pattern.compile("\\b" + word + "\\b").matcher(code).find(), false);
        }
        for (String sign : new String[] {"->", "::", "\"", "@"}) {
            check.due("the code has the sign " + sign, code.contains(sign), false);
        }
        for (String line : code.split("\n")) {
            if (line.contains("new ")) {
                check.due("an array is made in a field's initialiser: " + line.trim(),
                    line.matches(" {4}private final \\w+\\[\\] \\w+ = new \\w+\\[\\w+\\];"), true);
            }
        }
        check.due("calls inside the arguments of another call", callsInsideCalls(code), "");
    }

    /** Names each call that stands between the brackets of another one. */
    private static String callsInsideCalls(String code) {
        StringBuilder names = new StringBuilder();
        Deque<Boolean> brackets = new ArrayDeque<>();
        Matcher sign = Pattern.compile("(\\w*)\\s*\\(|\\)").matcher(code);
        while (sign.find()) {
            if (sign.group().equals(")")) {
                brackets.pop();
                continue;
            }
            String name = sign.group(1);
            boolean call = !name.isEmpty() && !Set.of("if", "for", "while", "switch", "return").contains(name);
            if (call && brackets.contains(true)) {
                names.append(name).append(' ');
            }
            brackets.push(call);
        }
        return names.toString();
    }
}
