import java.io.ByteArrayOutputStream;
import java.io.PrintStream;
import java.lang.reflect.Method;
import java.lang.reflect.Modifier;
import java.net.URL;
import java.net.URLClassLoader;
import java.nio.file.Files;
import java.nio.file.Path;
import java.util.List;
import java.util.stream.Collectors;
import java.util.stream.Stream;
import javax.tools.ToolProvider;

/** README.md tells the truth: its example prints what is told there, and it names each call and each test. */
public final class ReadmeTest extends Checks {
    private static String readme = "";

    /** The text of the first block of this kind. */
    private static String block(String kind) {
        String opening = "```" + kind + "\n";
        int from = readme.indexOf(opening);
        int to = from < 0 ? -1 : readme.indexOf("```", from + opening.length());
        return to < 0 ? "" : readme.substring(from + opening.length(), to);
    }

    /** The folder with the compiled example; it goes when the test ends. */
    private static Path compiledExample() throws Exception {
        Path folder = Files.createTempDirectory("readme");
        Path file = folder.resolve("Example.java");
        folder.toFile().deleteOnExit();
        file.toFile().deleteOnExit();
        folder.resolve("Example.class").toFile().deleteOnExit();
        Files.writeString(file, block("java"));
        ToolProvider.getSystemJavaCompiler().run(null, null, null, "--release", "17",
                "-cp", System.getProperty("java.class.path"), "-d", folder.toString(), file.toString());
        return folder;
    }

    private static String printedByTheExample() throws Exception {
        PrintStream before = System.out;
        ByteArrayOutputStream printed = new ByteArrayOutputStream();
        try (URLClassLoader loader = new URLClassLoader(new URL[] {compiledExample().toUri().toURL()})) {
            System.setOut(new PrintStream(printed, true));
            loader.loadClass("Example").getMethod("main", String[].class).invoke(null, (Object) new String[0]);
        } finally {
            System.setOut(before);
        }
        return printed.toString().replace(System.lineSeparator(), "\n");
    }

    private static List<String> namesOfTests() throws Exception {
        try (Stream<Path> files = Files.list(Path.of("src/test/java"))) {
            return files.map(f -> f.getFileName().toString()).collect(Collectors.toList());
        }
    }

    private static void eachCallIsTold() {
        for (Method m : SplitLeaks.class.getDeclaredMethods()) {
            if (Modifier.isPublic(m.getModifiers())) {
                due("a row of the table for " + m.getName(), readme.contains("\n| `" + m.getName() + "("), true);
            }
        }
    }

    private static void eachTestIsTold(List<String> names) {
        due("how all are run", readme.contains("\nbash .ci/run\n"), true);
        for (String name : names) {
            due("it names " + name, readme.contains(name + "`"), true);
        }
    }

    public static void main(String[] args) throws Exception {
        readme = Files.readString(Path.of("README.md"));
        String printed = printedByTheExample();
        List<String> names = namesOfTests();
        test("README.md, how to use the class: the example", () -> due("it", printed, block("text")));
        test("README.md, how to use the class: each call", ReadmeTest::eachCallIsTold);
        test("README.md, how to run its tests", () -> eachTestIsTold(names));
        end();
    }
}
