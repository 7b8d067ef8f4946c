import java.io.ByteArrayOutputStream;
import java.io.IOException;
import java.io.PrintStream;
import java.lang.reflect.Method;
import java.lang.reflect.Modifier;
import java.net.URL;
import java.net.URLClassLoader;
import java.nio.file.Files;
import java.nio.file.Path;
import java.util.ArrayList;
import java.util.List;
import java.util.regex.Matcher;
import java.util.regex.Pattern;
import java.util.stream.Stream;
import javax.tools.JavaCompiler;
import javax.tools.ToolProvider;

/** README.md holds: its example prints what it says, and each method and test is named. */
public final class ReadmeTest {
    private static final Checks CHECKS = new Checks("ReadmeTest");
    private static final Pattern EXAMPLE = Pattern.compile("```java\n(.*?)```", Pattern.DOTALL);
    private static final Pattern STATEMENT = Pattern.compile("^\\| `([^`]*;)` \\|", Pattern.MULTILINE);
    private static final Pattern SAID = Pattern.compile("^ +say\\((.*)\\); +// (-?\\d+): ");

    public static void main(String[] args) throws IOException, ReflectiveOperationException {
        String readme = Files.readString(Path.of("README.md"));
        methods(readme);
        tests(readme);
        statements(readme);
        example(readme);
        CHECKS.end();
    }

    private static void methods(String readme) {
        for (Method method : NewsExchange.class.getDeclaredMethods()) {
            if (Modifier.isPublic(method.getModifiers())) {
                String name = "`" + method.getName() + "`";
                CHECKS.due("README.md names " + name, readme.contains(name), true);
            }
        }
    }

    private static void tests(String readme) throws IOException {
        try (Stream<Path> files = Files.list(Path.of("src/test/java"))) {
            for (Path file : files.toList()) {
                String name = file.getFileName().toString().replace(".java", "");
                if (name.endsWith("Test")) {
                    CHECKS.due("README.md tells of " + name, readme.contains("\n| `" + name + "` |"), true);
                }
            }
        }
    }

    /** The statements of the table are a text as they stand there, and mean what is written beside them. */
    private static void statements(String readme) {
        StringBuilder text = new StringBuilder();
        Matcher statement = STATEMENT.matcher(readme);
        while (statement.find()) {
            text.append(statement.group(1));
        }
        NewsExchange x = new NewsExchange();
        CHECKS.due("parse of the statements " + text, Texts.parse(x, text.toString()), 0);
        CHECKS.due("people", x.size(0), 10);
        int[] line = {0, 1, 0, 5};
        for (int what = 0; what < line.length; what++) {
            CHECKS.due("line(0, " + what + ")", x.line(0, what), line[what]);
        }
        for (int round = 1; round <= 8; round++) {
            CHECKS.due("isUsable(0, " + round + ")", x.isUsable(0, round), round < 2 || round > 6);
        }
    }

    private static void example(String readme) throws IOException, ReflectiveOperationException {
        Matcher block = EXAMPLE.matcher(readme);
        CHECKS.due("README.md has an example", block.find(), true);
        String source = block.group(1);
        CHECKS.due("it is the only one", block.find(), false);
        List<String> calls = new ArrayList<>();
        List<Integer> due = new ArrayList<>();
        for (String line : source.split("\n")) {
            Matcher said = SAID.matcher(line);
            if (said.find()) {
                calls.add(said.group(1));
                due.add(Integer.valueOf(said.group(2)));
            }
        }
        String[] printed = printedBy(source).split("\\R");
        CHECKS.due("answers of the example", printed.length, source.split("\\bsay\\(", -1).length - 2);
        CHECKS.due("answers that it tells", printed.length, due.size());
        for (int i = 0; i < due.size() && i < printed.length; i++) {
            CHECKS.due("the example's " + calls.get(i), Long.parseLong(printed[i]), due.get(i));
        }
    }

    private static String printedBy(String source) throws IOException, ReflectiveOperationException {
        Path directory = Files.createTempDirectory("readme");
        Path file = Files.writeString(directory.resolve("Example.java"), source);
        JavaCompiler compiler = ToolProvider.getSystemJavaCompiler();
        String classes = System.getProperty("java.class.path");
        CHECKS.due("javac of the example", compiler.run(null, null, null, "-cp", classes, "-d", directory.toString(), file.toString()), 0);
        ByteArrayOutputStream printed = new ByteArrayOutputStream();
        PrintStream console = System.out;
        System.setOut(new PrintStream(printed, true));
        // an Example.class that a reader of the page left beside the tests is not the one that is meant
        URL[] places = {directory.toUri().toURL(), NewsExchange.class.getProtectionDomain().getCodeSource().getLocation()};
        try (URLClassLoader loader = new URLClassLoader(places, ClassLoader.getPlatformClassLoader())) {
            loader.loadClass("Example").getMethod("main", String[].class).invoke(null, (Object) new String[0]);
        } finally {
            System.setOut(console);
            Files.deleteIfExists(directory.resolve("Example.class"));
            Files.delete(file);
            Files.delete(directory);
        }
        return printed.toString();
    }
}
