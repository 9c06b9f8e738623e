import java.lang.reflect.Method;
import java.lang.reflect.Modifier;
import java.net.URL;
import java.net.URLClassLoader;
import java.nio.file.Files;
import java.nio.file.Path;
import java.util.ArrayList;
import java.util.List;
import java.util.regex.Matcher;
import java.util.regex.Pattern;
import javax.tools.ToolProvider;

/**
 * README.md names every call. Its examples are one piece of Java that compiles, and each call with a number behind
 * it answers that number. They are written into a class of their own, in which such a call stands
 * inside a check, and this is compiled and run.
 */
public final class ReadmeTest {
    private static final Pattern ANSWERED = Pattern.compile("(\\S.*);\\s+// (-?[0-9]+(?:\\.[0-9]+)?)\\b.*");
    private static final Pattern NAMED = Pattern.compile(".*// (-[0-9]+) \\(([A-Z]+)\\).*");
    private static final List<String> REFUSALS = List.of("BAD -1", "STATE -2", "FULL -3", "NONE -4", "NULL -11",
            "CAST -12", "INDEX -13", "STORE -14", "EMPTY -15", "SIZE -16");
    private static final int LEAST_ANSWERS = 60;

    private static int answers;
    private static int wrong;

    private ReadmeTest() {
    }

    /** Called by the examples. */
    public static void due(int line, double got, double want) {
        answers++;
        if (got != want) {
            wrong("line " + line + " answers " + got + ", there stands " + want);
        }
    }

    private static void wrong(String what) {
        wrong++;
        System.out.println("README.md: " + what);
    }

    /** The lines of the examples, those with an answer as checks. */
    private static List<String> checks(List<String> readme) {
        List<String> code = new ArrayList<>();
        boolean inside = false;
        for (int i = 0; i < readme.size(); i++) {
            String line = readme.get(i);
            if (line.startsWith("```")) {
                inside = line.equals("```java");
            } else if (inside) {
                Matcher answered = ANSWERED.matcher(line);
                code.add(answered.matches()
                        ? "ReadmeTest.due(" + (i + 1) + ", " + answered.group(1) + ", " + answered.group(2) + ");"
                        : line);
                lookAtName(i + 1, line);
            }
        }
        return code;
    }

    private static void lookAtName(int number, String line) {
        Matcher named = NAMED.matcher(line);
        if (named.matches() && !REFUSALS.contains(named.group(2) + " " + named.group(1))) {
            wrong("line " + number + " names a refusal that is another: " + line.trim());
        }
    }

    private static void lookAtCalls(String readme) {
        for (Method method : WeightedWords.class.getDeclaredMethods()) {
            if (Modifier.isPublic(method.getModifiers()) && !readme.contains("`" + method.getName() + "`")) {
                wrong("the call " + method.getName() + " is not named");
            }
        }
    }

    private static void runAll(List<String> code) throws Exception {
        Path place = Files.createTempDirectory("readme");
        Path source = place.resolve("ReadmeExamples.java");
        Files.writeString(source, "public final class ReadmeExamples {\npublic static void run() {\n"
                + String.join("\n", code) + "\n}\n}\n");
        int compiled = ToolProvider.getSystemJavaCompiler().run(null, null, null, "-cp",
                System.getProperty("java.class.path"), "-d", place.toString(), source.toString());
        if (compiled != 0) {
            wrong("the examples do not compile");
        } else {
            try (URLClassLoader loader = new URLClassLoader(new URL[] {place.toUri().toURL()})) {
                loader.loadClass("ReadmeExamples").getMethod("run").invoke(null);
            }
        }
        for (String name : List.of("ReadmeExamples.class", "ReadmeExamples.java", "")) {
            Files.deleteIfExists(place.resolve(name));
        }
    }

    public static void main(String[] args) throws Exception {
        List<String> readme = Files.readAllLines(Path.of("README.md"));
        lookAtCalls(String.join("\n", readme));
        runAll(checks(readme));
        if (answers < LEAST_ANSWERS) {
            wrong("only " + answers + " answers stand in the examples");
        }
        System.out.println(answers + " answers in README.md, " + wrong + " wrong");
        if (wrong != 0) {
            System.exit(1);
        }
    }
}
