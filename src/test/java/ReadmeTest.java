import java.io.IOException;
import java.lang.reflect.Method;
import java.lang.reflect.Modifier;
import java.net.URL;
import java.net.URLClassLoader;
import java.nio.file.Files;
import java.nio.file.Path;
import java.util.ArrayList;
import java.util.List;
import java.util.Set;
import java.util.TreeSet;
import java.util.regex.Matcher;
import java.util.regex.Pattern;
import javax.tools.ToolProvider;

/** Compiles and runs the examples of README.md as one program: each call must give the answer its comment tells. */
public final class ReadmeTest {
    private static final Check check = new Check();
    private static final Pattern ANSWERED =
        Pattern.compile("(?:int (\\w+) = )?(engine\\.(\\w+)\\(.*\\)); +// (-?\\d+|true|false)\\b.*");
    private static final Set<String> called = new TreeSet<>();

    public static void main(String[] args) throws Exception {
        String program = program(examples(Path.of("README.md")));
        for (Object[] row : answersOf(program)) {
            check.due("README.md: " + row[0], row[1], row[2]);
        }
        check.due("the methods whose answers README.md tells", called, publicMethods());
        check.finish();
    }

    /** The lines of all blocks of Java code. */
    private static List<String> examples(Path file) throws IOException {
        List<String> lines = new ArrayList<>();
        boolean inside = false;
        for (String line : Files.readAllLines(file)) {
            if (line.startsWith("```")) {
                inside = line.equals("```java");
            } else if (inside) {
                lines.add(line);
            }
        }
        return lines;
    }

    /** A class whose method puts a row of call, answer and answer told into a list for each call. */
    private static String program(List<String> lines) {
        StringBuilder text = new StringBuilder("public final class ReadmeExample {\n"
            + "public static void play(java.util.List<Object[]> rows) {\n");
        for (String line : lines) {
            Matcher answered = ANSWERED.matcher(line);
            if (answered.matches()) {
                text.append(withRow(line, answered)).append('\n');
                called.add(answered.group(3));
                continue;
            }
            boolean mute = line.startsWith("engine.") || line.startsWith("int ");
            check.due("README.md tells the answer: " + line, mute, false);
            text.append(line).append('\n');
        }
        return text.append("}\n}\n").toString();
    }

    private static String withRow(String line, Matcher answered) {
        String name = answered.group(1);
        String call = answered.group(2);
        String row = "rows.add(new Object[] {\"" + call + "\", " + (name == null ? call : name)
            + ", " + answered.group(4) + "});";
        return name == null ? row : line.substring(0, line.indexOf("//")) + row;
    }

    private static List<Object[]> answersOf(String program) throws Exception {
        List<Object[]> rows = new ArrayList<>();
        Path folder = temporary(Files.createTempDirectory("readme"));
        Path source = temporary(folder.resolve("ReadmeExample.java"));
        temporary(folder.resolve("ReadmeExample.class"));
        Files.writeString(source, program);
        int code = ToolProvider.getSystemJavaCompiler().run(null, null, null, "-cp",
            System.getProperty("java.class.path"), "-d", folder.toString(), source.toString());
        check.due("README.md: compiling the examples", code, 0);
        if (code == 0) {
            try (URLClassLoader loader = new URLClassLoader(new URL[] {folder.toUri().toURL()})) {
                loader.loadClass("ReadmeExample").getMethod("play", List.class).invoke(null, rows);
            }
        }
        return rows;
    }

    private static Path temporary(Path path) {
        path.toFile().deleteOnExit();
        return path;
    }

    private static Set<String> publicMethods() {
        Set<String> names = new TreeSet<>();
        for (Method method : FixtureEngineY.class.getDeclaredMethods()) {
            if (Modifier.isPublic(method.getModifiers())) {
                names.add(method.getName());
            }
        }
        return names;
    }
}
