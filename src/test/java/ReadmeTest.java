import java.io.File;
import java.io.IOException;
import java.lang.reflect.InvocationTargetException;
import java.lang.reflect.Method;
import java.lang.reflect.Modifier;
import java.net.URL;
import java.net.URLClassLoader;
import java.nio.file.Files;
import java.nio.file.Path;
import java.util.ArrayList;
import java.util.List;
import java.util.regex.Matcher;
import java.util.regex.Pattern;
import java.util.stream.Stream;
import javax.tools.ToolProvider;

/**
 * Compiles and runs the Java parts of README.md as they stand there, one behind the other as one run, and holds
 * each answer against the number that stands behind its call.
 */
public final class ReadmeTest {
    private static final Check CHECK = new Check("ReadmeTest");
    private static final Pattern PART = Pattern.compile("```java\n(.*?)```", Pattern.DOTALL);
    private static final Pattern ASKS = Pattern.compile("(?:(?:int|long) (\\w+) = )?(x\\.(\\w+)\\(.*\\)); +// (-?\\d+)(?:: .+)?");
    private static final String MAKES = "WhenItWas x = new WhenItWas();";
    private static final int MOST_CALLS = 512;

    private static final List<String> SHOWN = new ArrayList<>();

    public static void main(String[] args) throws Exception {
        String page = Files.readString(Path.of("README.md"));
        run(programOf(page));
        showsEveryCall();
        namesEveryTest(page);
        CHECK.end();
    }

    /** Called by the program that is made of the page. */
    public static void due(String call, long got, long want) {
        CHECK.due(call, got, want);
    }

    private static void isTrue(String what, boolean is) {
        CHECK.due(what, is ? 1 : 0, 1);
    }

    private static String programOf(String page) {
        StringBuilder program = new StringBuilder("public class Page {\n  public static void run() {\n");
        Matcher parts = PART.matcher(page);
        while (parts.find()) {
            for (String line : parts.group(1).split("\n")) program.append(asked(line.strip())).append('\n');
        }
        isTrue("README.md: calls of one object, " + SHOWN.size(), SHOWN.size() <= MOST_CALLS);
        return program.append("  }\n}\n").toString();
    }

    /** A line of the page, and the question whether its answer is as shown. */
    private static String asked(String line) {
        if (line.isEmpty() || line.equals(MAKES)) {
            return line;
        }
        Matcher m = ASKS.matcher(line);
        isTrue("README.md: a call with its answer is " + line, m.matches());
        if (!m.matches()) {
            return "";
        }
        SHOWN.add(m.group(3));
        String call = m.group(2);
        String got = m.group(1) == null ? call : m.group(1);
        String declared = m.group(1) == null ? "" : line.substring(0, line.indexOf(';') + 1);
        return declared + " ReadmeTest.due(\"README.md: " + call + "\", " + got + ", " + m.group(4) + "L);";
    }

    private static void run(String program) throws Exception {
        Path folder = Files.createTempDirectory("readme");
        try {
            Path source = folder.resolve("Page.java");
            Files.writeString(source, program);
            int refused = ToolProvider.getSystemJavaCompiler().run(null, null, null,
                    "-d", folder.toString(), "-cp", System.getProperty("java.class.path"), source.toString());
            CHECK.due("README.md compiles (javac's exit code)", refused, 0);
            if (refused == 0) {
                runIn(folder);
            }
        } finally {
            for (File file : folder.toFile().listFiles()) file.delete();
            folder.toFile().delete();
        }
    }

    private static void runIn(Path folder) throws IOException, ReflectiveOperationException {
        try (URLClassLoader loader = new URLClassLoader(new URL[] {folder.toUri().toURL()})) {
            loader.loadClass("Page").getMethod("run").invoke(null);
        } catch (InvocationTargetException e) {
            e.getCause().printStackTrace(System.out);
            isTrue("README.md runs without a throw", false);
        }
    }

    private static void showsEveryCall() {
        for (Method m : WhenItWas.class.getDeclaredMethods()) {
            if (Modifier.isPublic(m.getModifiers())) isTrue("README.md shows " + m.getName(), SHOWN.contains(m.getName()));
        }
    }

    private static void namesEveryTest(String page) throws IOException {
        try (Stream<Path> files = Files.list(Path.of("src/test/java"))) {
            files.map(file -> file.getFileName().toString()).filter(name -> name.endsWith("Test.java")).forEach(name -> {
                String test = name.substring(0, name.length() - ".java".length());
                isTrue("README.md names " + test, Pattern.compile("\\| ([^|\n]*, )?" + test + "[ ,]").matcher(page).find());
            });
        }
        Matcher named = Pattern.compile("(?<!\\w)\\w+Test(?!\\w)").matcher(page);
        while (named.find()) {
            isTrue("README.md: there is " + named.group(), Files.exists(Path.of("src/test/java/" + named.group() + ".java")));
        }
    }
}
