import java.io.ByteArrayOutputStream;
import java.io.IOException;
import java.io.PrintStream;
import java.lang.reflect.Field;
import java.lang.reflect.Method;
import java.lang.reflect.Modifier;
import java.net.URL;
import java.net.URLClassLoader;
import java.nio.file.Files;
import java.nio.file.Path;
import java.util.ArrayList;
import java.util.List;
import java.util.regex.Matcher;
import java.util.regex.Pattern;
import java.util.stream.Stream;
import javax.tools.ToolProvider;

/** README.md: its example answers as it says, and it names all that there is to call and to run. */
public final class ReadmeTest {
    private static final Path README = Path.of("README.md"), TESTS = Path.of("src/test/java");
    private static final Pattern EXAMPLE = Pattern.compile("```java\n(.*?)```", Pattern.DOTALL);
    private static final Pattern CALL = Pattern.compile("println\\((x\\..*)\\); +// (-?\\d+)");
    private static final Check CHECK = new Check("ReadmeTest");

    public static void main(String[] args) throws IOException, ReflectiveOperationException {
        String readme = Files.readString(README);
        runExample(readme);
        nameFace(readme);
        nameTests(readme);
        CHECK.finish();
    }

    private static void runExample(String readme) throws IOException, ReflectiveOperationException {
        Matcher found = EXAMPLE.matcher(readme);
        if (!found.find()) {
            CHECK.due("an example stands in README.md", 0, 1);
            return;
        }
        String example = found.group(1);
        List<String> calls = new ArrayList<>(), answers = new ArrayList<>();
        for (Matcher call = CALL.matcher(example); call.find(); ) {
            calls.add(call.group(1));
            answers.add(call.group(2));
        }
        String text = printedBy(example);
        if (text.isEmpty()) {
            CHECK.due("the example prints", 0, 1);
            return;
        }
        String[] printed = text.split("\\R");
        CHECK.due("lines printed by the example", printed.length, example.split("println").length - 1);
        CHECK.due("lines whose answer is told", calls.size(), printed.length);
        for (int i = 0; i < Math.min(calls.size(), printed.length); i++) {
            CHECK.due("example: " + calls.get(i), Long.parseLong(printed[i]), Long.parseLong(answers.get(i)));
        }
    }

    private static String printedBy(String example) throws IOException, ReflectiveOperationException {
        Path folder = Files.createTempDirectory("readme");
        Path source = folder.resolve("Example.java"), made = folder.resolve("Example.class");
        PrintStream out = System.out;
        ByteArrayOutputStream printed = new ByteArrayOutputStream();
        try (URLClassLoader loader = new URLClassLoader(new URL[] {folder.toUri().toURL()}, ReadmeTest.class.getClassLoader())) {
            Files.writeString(source, example);
            int failed = ToolProvider.getSystemJavaCompiler().run(null, null, null, "-cp",
                System.getProperty("java.class.path"), "-d", folder.toString(), source.toString());
            CHECK.due("the example compiles", failed, 0);
            if (failed == 0) {
                System.setOut(new PrintStream(printed, true));
                loader.loadClass("Example").getMethod("main", String[].class).invoke(null, (Object) new String[0]);
            }
        } finally {
            System.setOut(out);
            Files.deleteIfExists(made);
            Files.deleteIfExists(source);
            Files.deleteIfExists(folder);
        }
        return printed.toString();
    }

    private static void nameFace(String readme) {
        for (Method method : NinePence.class.getDeclaredMethods()) {
            if (Modifier.isPublic(method.getModifiers())) {
                named(readme, "`" + method.getName() + "(");
            }
        }
        for (Field field : NinePence.class.getFields()) {
            named(readme, "`" + field.getName() + "`");
        }
    }

    private static void nameTests(String readme) throws IOException {
        try (Stream<Path> files = Files.list(TESTS)) {
            for (Path file : files.sorted().toList()) {
                String name = file.getFileName().toString().replace(".java", "");
                if (name.endsWith("Test")) {
                    named(readme, "`" + name + "`");
                }
            }
        }
    }

    private static void named(String readme, String name) {
        CHECK.due("README.md names " + name, readme.contains(name) ? 1 : 0, 1);
    }
}
