import java.io.ByteArrayOutputStream;
import java.io.IOException;
import java.io.PrintStream;
import java.lang.reflect.Method;
import java.net.URL;
import java.net.URLClassLoader;
import java.nio.charset.StandardCharsets;
import java.nio.file.Files;
import java.nio.file.Path;
import java.util.ArrayList;
import java.util.List;
import java.util.regex.Matcher;
import java.util.regex.Pattern;
import java.util.stream.Stream;
import javax.tools.JavaCompiler;
import javax.tools.ToolProvider;

/** README.md: its example is compiled and answers what it says; every call and every test is in it. */
public final class ReadmeTest {
    private static final Verdict VERDICT = new Verdict();

    public static void main(String[] args) throws Exception {
        String readme = Files.readString(Path.of("README.md"));
        exampleAnswersWhatItSays(readme);
        everyCallIsThere(readme);
        everyTestIsThere(readme);
        VERDICT.end();
    }

    private static void exampleAnswersWhatItSays(String readme) throws Exception {
        Matcher blocks = Pattern.compile("(?s)```java\n(.*?)```").matcher(readme);
        VERDICT.due("blocks of Java", blocks.find() ? 1 : 0, 1);
        String example = blocks.group(1);
        VERDICT.due("the example", String.join("\n", answersOf(example)), String.join("\n", answersSaid(example)));
    }

    /** Behind each // stands an answer, up to a colon if there is one. */
    private static List<String> answersSaid(String example) {
        List<String> said = new ArrayList<>();
        for (String line : example.split("\n")) {
            int at = line.indexOf("// ");
            if (at >= 0) {
                said.add(line.substring(at + 3).split(":")[0]);
            }
        }
        return said;
    }

    private static List<String> answersOf(String example) throws Exception {
        Path made = Files.createTempDirectory("readme");
        Path source = Files.writeString(made.resolve("Example.java"), example);
        JavaCompiler compiler = ToolProvider.getSystemJavaCompiler();
        String classes = System.getProperty("java.class.path");
        int refused = compiler.run(null, null, null, "-cp", classes, "-d", made.toString(), source.toString());
        VERDICT.due("compiling the example", refused, 0);
        String printed = refused == 0 ? printedBy(made) : "";
        remove(made);
        return printed.lines().toList();
    }

    private static String printedBy(Path made) throws Exception {
        ByteArrayOutputStream bytes = new ByteArrayOutputStream();
        PrintStream console = System.out;
        try (URLClassLoader loader = new URLClassLoader(new URL[] {made.toUri().toURL()})) {
            System.setOut(new PrintStream(bytes, true, StandardCharsets.UTF_8));
            loader.loadClass("Example").getMethod("main", String[].class).invoke(null, (Object) new String[0]);
        } finally {
            System.setOut(console);
        }
        return bytes.toString(StandardCharsets.UTF_8);
    }

    private static void remove(Path directory) throws IOException {
        try (Stream<Path> files = Files.list(directory)) {
            for (Path file : files.toList()) {
                Files.delete(file);
            }
        }
        Files.delete(directory);
    }

    private static void everyCallIsThere(String readme) {
        dueIn(readme, "`new EditionGrid(int columns, int rows, int width)`");
        dueIn(readme, "`EditionGrid.NONE`");
        dueIn(readme, "`EditionGrid.ROOM`");
        for (Method method : EditionGrid.class.getDeclaredMethods()) {
            if (java.lang.reflect.Modifier.isPublic(method.getModifiers())) {
                dueIn(readme, "| `" + method.getReturnType() + " " + method.getName() + "(");
            }
        }
    }

    private static void everyTestIsThere(String readme) throws IOException {
        dueIn(readme, "\n.ci/run\n");
        try (Stream<Path> files = Files.list(Path.of("src/test/java"))) {
            for (Path file : files.toList()) {
                dueIn(readme, "`" + file.getFileName().toString().replace(".java", "") + "`");
            }
        }
    }

    private static void dueIn(String readme, String words) {
        VERDICT.due("README.md has " + words, readme.contains(words) ? 1 : 0, 1);
    }
}
