import java.io.IOException;
import java.io.PrintWriter;
import java.io.StringWriter;
import java.lang.reflect.Field;
import java.lang.reflect.Method;
import java.lang.reflect.Modifier;
import java.net.URL;
import java.net.URLClassLoader;
import java.nio.charset.StandardCharsets;
import java.nio.file.Files;
import java.nio.file.Path;
import java.util.Comparator;
import java.util.List;
import java.util.regex.Matcher;
import java.util.regex.Pattern;
import java.util.stream.Stream;
import javax.tools.JavaCompiler;
import javax.tools.StandardJavaFileManager;
import javax.tools.ToolProvider;

/** README.md tells what is so: its examples answer what stands beside them, and no call, constant or test is left out. */
public final class ReadmeTest {
    private static final Path PAGE = Path.of("README.md");
    private static final Pattern EXAMPLE = Pattern.compile("(?s)```java\n(.*?)```");
    private static final Pattern CALL = Pattern.compile("(attic\\..*\\));\\s*// (-?\\d+)\\b.*");

    private static int wrong = 0;

    private static void tell(String fault) {
        wrong++;
        System.out.println(fault);
    }

    private static void holds(boolean fact, String says) {
        if (!fact) tell("README.md does not say: " + says);
    }

    // ---- what it has to name

    private static void namesTheFace(String page) throws IllegalAccessException {
        for (Method method : CreakingGhosts.class.getDeclaredMethods()) {
            if (!Modifier.isPublic(method.getModifiers())) continue;
            Matcher found = Pattern.compile("\\| `" + method.getName() + "\\(([^)]*)\\)` \\|").matcher(page);
            boolean named = found.find();
            holds(named, "what " + method.getName() + " does");
            int parameters = !named || found.group(1).isEmpty() ? 0 : found.group(1).split(",").length;
            holds(parameters == method.getParameterCount(), "the parameters of " + method.getName());
        }
        for (Field field : CreakingGhosts.class.getDeclaredFields()) {
            if (!Modifier.isPublic(field.getModifiers())) continue;
            String value = field.get(null).toString();
            holds(Pattern.compile("`" + field.getName() + "` \\(" + value + "[;)]").matcher(page).find(), field.getName() + " is " + value);
        }
    }

    private static void namesTheTests(String page) throws IOException {
        try (Stream<Path> tests = Files.list(Path.of("src/test/java"))) {
            for (Path test : (Iterable<Path>) tests::iterator) {
                String name = test.getFileName().toString().replace(".java", "");
                holds(page.contains("`" + name + "`"), "what " + name + " is");
            }
        }
        holds(page.contains(".ci/run"), "how to run the tests");
    }

    // ---- its examples

    private static String quoted(String text) {
        return "\"" + text.replace("\\", "\\\\").replace("\"", "\\\"") + "\"";
    }

    /** A program of all examples, in which each call is compared with the answer that stands beside it. */
    private static String programOf(String page) {
        StringBuilder members = new StringBuilder();
        StringBuilder steps = new StringBuilder();
        int compared = 0;
        for (Matcher example = EXAMPLE.matcher(page); example.find();) {
            boolean declares = example.group(1).startsWith("static ");
            for (String line : example.group(1).split("\n")) {
                Matcher call = CALL.matcher(line);
                if (call.matches()) compared++;
                else if (line.contains("attic.")) tell("README.md does not say what is answered: " + line);
                String step = call.matches() ? "due(" + quoted(line) + ", " + call.group(1) + ", " + call.group(2) + ");" : line;
                (declares ? members : steps).append(step).append('\n');
            }
        }
        holds(compared >= 25, "examples, but for " + compared);
        return "public final class Examples {\n" + members + "static String wrong = \"\";\n"
            + "static void due(String line, int got, int want) {\n"
            + "if (got != want) wrong += \"answered \" + got + \": \" + line + \"\\n\";\n}\n"
            + "public static String run() {\n" + steps + "return wrong;\n}\n}\n";
    }

    private static boolean compiles(Path file, Path folder) throws IOException {
        StringWriter complaints = new StringWriter();
        JavaCompiler compiler = ToolProvider.getSystemJavaCompiler();
        try (StandardJavaFileManager files = compiler.getStandardFileManager(null, null, StandardCharsets.UTF_8)) {
            List<String> options = List.of("-proc:none", "-cp", System.getProperty("java.class.path"), "-d", folder.toString());
            boolean done = compiler.getTask(new PrintWriter(complaints), files, null, options, null, files.getJavaFileObjects(file)).call();
            if (!done) tell("the examples of README.md do not compile: " + complaints);
            return done;
        }
    }

    private static void runExamples(String page, Path folder) throws IOException, ReflectiveOperationException {
        Path file = Files.writeString(folder.resolve("Examples.java"), programOf(page), StandardCharsets.UTF_8);
        if (!compiles(file, folder)) return;
        try (URLClassLoader loader = new URLClassLoader(new URL[] {folder.toUri().toURL()}, ReadmeTest.class.getClassLoader())) {
            String faults = (String) loader.loadClass("Examples").getMethod("run").invoke(null);
            if (!faults.isEmpty()) tell(faults);
        }
    }

    private static void remove(Path folder) throws IOException {
        try (Stream<Path> all = Files.walk(folder)) {
            for (Path path : (Iterable<Path>) all.sorted(Comparator.reverseOrder())::iterator) Files.delete(path);
        }
    }

    public static void main(String[] args) throws IOException, ReflectiveOperationException {
        String page = Files.readString(PAGE, StandardCharsets.UTF_8).replace("\r", "");
        namesTheFace(page);
        namesTheTests(page);
        Path folder = Files.createTempDirectory("examples");
        try {
            runExamples(page, folder);
        } finally {
            remove(folder);
        }
        System.out.println(wrong == 0 ? "README.md tells what is so" : wrong + " faults of README.md");
        if (wrong != 0) System.exit(1);
    }
}
