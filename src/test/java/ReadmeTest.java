import java.io.IOException;
import java.lang.reflect.Method;
import java.lang.reflect.Modifier;
import java.net.URL;
import java.net.URLClassLoader;
import java.nio.file.Files;
import java.nio.file.Path;
import java.util.List;
import java.util.regex.Matcher;
import java.util.regex.Pattern;
import java.util.stream.Stream;
import javax.tools.ToolProvider;

// README.md: its Java compiles, each answer told behind "//" is the one that the class gives, and
// every call of the class and every test of the project is told of.
public final class ReadmeTest {
    private static final Path README = Path.of("README.md");
    private static final Path TESTS = Path.of("src/test/java");
    private static final Path BUILT = Path.of("build/readme");
    private static final Pattern ANSWER = Pattern.compile("\\s*(company\\.\\w+\\(.*\\)); +// (-?\\d+|[A-Z_]+)\\b.*");

    /** An example with fewer answers would show only a part of what there is. */
    private static final int FEWEST_ANSWERS = 30;

    private static int wrong = 0;
    private static int answers = 0;

    private static void fault(String what) {
        wrong++;
        System.out.println("README.md: " + what);
    }

    /** Called by the example, which is a class of its own. */
    public static void due(String call, int got, int want) {
        answers++;
        if (got != want) {
            fault(call + " answers " + got + ", told is " + want);
        }
    }

    private static String javaOf(List<String> lines) {
        StringBuilder java = new StringBuilder();
        boolean inside = false;
        for (String line : lines) {
            if (line.startsWith("```")) {
                inside = line.equals("```java");
            } else if (inside) {
                java.append(line).append('\n');
            }
        }
        return java.toString();
    }

    private static String asProgram(String java) {
        StringBuilder program = new StringBuilder("public final class Example { public static void main(String[] none) {\n");
        for (String line : java.split("\n")) {
            Matcher answer = ANSWER.matcher(line);
            if (answer.matches()) {
                String call = answer.group(1);
                String want = answer.group(2).matches("[A-Z_]+") ? "CapStacks." + answer.group(2) : answer.group(2);
                line = "ReadmeTest.due(\"" + call.replace("\"", "\\\"") + "\", " + call + ", " + want + ");";
            }
            program.append(line).append('\n');
        }
        return program.append("}}\n").toString();
    }

    private static void runExample(String java) throws IOException, ReflectiveOperationException {
        Path source = Files.createDirectories(BUILT).resolve("Example.java");
        Files.writeString(source, asProgram(java));
        int failed = ToolProvider.getSystemJavaCompiler().run(null, null, null, "-d", BUILT.toString(),
            "-cp", System.getProperty("java.class.path"), source.toString());
        if (failed != 0) {
            fault("its Java does not compile");
            return;
        }
        try (URLClassLoader loader = new URLClassLoader(new URL[] {BUILT.toUri().toURL()})) {
            loader.loadClass("Example").getMethod("main", String[].class).invoke(null, (Object) new String[0]);
        }
    }

    private static void toldOf(String readme) throws IOException {
        for (Method method : CapStacks.class.getDeclaredMethods()) {
            if (Modifier.isPublic(method.getModifiers()) && !readme.contains("company." + method.getName() + "(")) {
                fault("no example of " + method.getName());
            }
        }
        try (Stream<Path> tests = Files.list(TESTS)) {
            for (Path test : tests.sorted().toList()) {
                if (!readme.contains("`src/test/java/" + test.getFileName() + "`")) {
                    fault("nothing about " + test.getFileName());
                }
            }
        }
        for (String path : List.of(".ci/run", "../shared/tests", "../shared/DOC.md")) {
            if (!readme.contains(path)) {
                fault("nothing about " + path);
            }
        }
    }

    public static void main(String[] args) throws IOException, ReflectiveOperationException {
        runExample(javaOf(Files.readAllLines(README)));
        toldOf(Files.readString(README));
        if (answers < FEWEST_ANSWERS) {
            fault("only " + answers + " answers are told");
        }
        System.out.println(wrong == 0 ? answers + " answers of README.md are the class's" : wrong + " faults in README.md");
        if (wrong != 0) {
            System.exit(1);
        }
    }
}
