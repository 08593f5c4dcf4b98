import java.io.ByteArrayOutputStream;
import java.io.IOException;
import java.io.PrintStream;
import java.lang.reflect.Field;
import java.lang.reflect.Method;
import java.lang.reflect.Modifier;
import java.net.URL;
import java.net.URLClassLoader;
import java.nio.file.Files;
import java.nio.file.Path;
import java.util.ArrayList;
import java.util.List;
import java.util.regex.Matcher;
import java.util.regex.Pattern;
import javax.tools.ToolProvider;

/** README.md tells how to use the class: its example is run, and each public member must be named there. */
public final class ReadmeTest {
    private static final Path README = Path.of("README.md");
    private static final Pattern EXAMPLE = Pattern.compile("```java\n(.*?)```", Pattern.DOTALL);
    // What is due stands behind the line, up to a colon that begins the explanation.
    private static final Pattern PRINTED = Pattern.compile("System\\.out\\.println\\(host\\..*;\\s*// ([^:\n]+)");

    private static int wrong = 0;

    public static void main(String[] args) throws IOException, ReflectiveOperationException {
        String readme = Files.readString(README);
        callsNamed(readme);
        constantsNamed(readme);
        exampleRuns(readme);
        due(readme.contains("    .ci/run\n"), "README.md does not say how to run the tests");
        System.out.println(wrong == 0 ? "README.md is as due" : wrong + " things in README.md are not as due");
        if (wrong != 0) {
            System.exit(1);
        }
    }

    private static void due(boolean holds, String otherwise) {
        if (!holds) {
            wrong++;
            System.out.println(otherwise);
        }
    }

    private static void callsNamed(String readme) {
        for (Method method : BalloonShare.class.getDeclaredMethods()) {
            if (Modifier.isPublic(method.getModifiers())) {
                String others = "(, \\w+){" + (method.getParameterCount() - 1) + "}";
                Pattern row = Pattern.compile("^\\| `" + method.getName() + "\\(\\w+" + others + "\\)` \\|",
                        Pattern.MULTILINE);
                due(row.matcher(readme).find(), "no row of the table is for " + method);
                due(readme.contains("host." + method.getName() + "("), "the example does not use " + method);
            }
        }
    }

    private static void constantsNamed(String readme) throws IllegalAccessException {
        for (Field field : BalloonShare.class.getDeclaredFields()) {
            if (Modifier.isPublic(field.getModifiers())) {
                String words = "`" + field.getName() + "` is " + field.getInt(null);
                due(Pattern.compile(Pattern.quote(words) + "\\b").matcher(readme).find(), "it does not say: " + words);
            }
        }
    }

    private static void exampleRuns(String readme) throws IOException, ReflectiveOperationException {
        Matcher example = EXAMPLE.matcher(readme);
        if (!example.find()) {
            due(false, "there is no example");
            return;
        }
        List<String> want = new ArrayList<>();
        Matcher printed = PRINTED.matcher(example.group(1));
        while (printed.find()) {
            want.add(printed.group(1).strip());
        }
        due(!want.isEmpty(), "the example prints nothing");
        List<String> got = outputOf(example.group(1));
        due(got.equals(want), "the example prints " + got + ", behind its lines stands " + want);
    }

    private static List<String> outputOf(String source) throws IOException, ReflectiveOperationException {
        Path dir = Files.createTempDirectory(Path.of("build"), "readme");
        Path file = dir.resolve("Example.java");
        Files.writeString(file, source);
        int compiled = ToolProvider.getSystemJavaCompiler().run(null, null, null, "--release", "17",
                "-cp", System.getProperty("java.class.path"), "-d", dir.toString(), file.toString());
        if (compiled != 0) {
            return List.of("(does not compile)");
        }
        ByteArrayOutputStream bytes = new ByteArrayOutputStream();
        PrintStream console = System.out;
        try (URLClassLoader loader = new URLClassLoader(new URL[] {dir.toUri().toURL()})) {
            Method main = loader.loadClass("Example").getMethod("main", String[].class);
            System.setOut(new PrintStream(bytes, true));
            main.invoke(null, (Object) new String[0]);
        } finally {
            System.setOut(console);
        }
        return bytes.toString().lines().toList();
    }
}
