import java.io.ByteArrayOutputStream;
import java.io.PrintStream;
import java.net.URL;
import java.net.URLClassLoader;
import java.nio.file.Files;
import java.nio.file.Path;
import java.util.Comparator;
import java.util.List;
import java.util.stream.Stream;
import javax.tools.ToolProvider;

/** What README.md shows can be compiled and prints what it says; each program of the tests is named there. */
public final class ReadmeTest extends Due {
    private static final String BLOCK = "```java\n";
    private static final String PRINTED = "// prints ";

    public static void main(String[] args) throws Exception {
        String readme = Files.readString(Path.of("README.md"));
        examplesPrintWhatTheySay(readme);
        allTestsAreNamed(readme);
        end();
    }

    private static void examplesPrintWhatTheySay(String readme) throws Exception {
        int examples = 0;
        for (int at = readme.indexOf(BLOCK); at >= 0; at = readme.indexOf(BLOCK, at + 1)) {
            String block = readme.substring(at + BLOCK.length(), readme.indexOf("```", at + BLOCK.length()));
            String said = block.lines().filter(line -> line.contains(PRINTED))
                .map(line -> line.substring(line.indexOf(PRINTED) + PRINTED.length()) + "\n")
                .reduce("", String::concat);
            examples++;
            due("example " + examples, printed(block), said);
        }
        due("there are examples", examples > 0, true);
    }

    /** What the lines print when they stand in a main method. */
    private static String printed(String lines) throws Exception {
        Path folder = Files.createTempDirectory("readme");
        PrintStream before = System.out;
        ByteArrayOutputStream caught = new ByteArrayOutputStream();
        try (URLClassLoader loader = new URLClassLoader(new URL[] {folder.toUri().toURL()})) {
            Path source = folder.resolve("Example.java");
            String body = "public class Example { public static void main(String[] args) {\n" + lines + "} }\n";
            Files.writeString(source, body);
            String path = System.getProperty("java.class.path");
            int code = ToolProvider.getSystemJavaCompiler().run(null, null, null,
                "-cp", path, "-d", folder.toString(), source.toString());
            due("the example is compiled", code, 0);
            System.setOut(new PrintStream(caught, true, "UTF-8"));
            loader.loadClass("Example").getMethod("main", String[].class).invoke(null, (Object) new String[0]);
        } finally {
            System.setOut(before);
            remove(folder);
        }
        return caught.toString("UTF-8").replace(System.lineSeparator(), "\n");
    }

    private static void remove(Path folder) throws Exception {
        try (Stream<Path> all = Files.walk(folder)) {
            List<Path> deepestFirst = all.sorted(Comparator.reverseOrder()).toList();
            for (Path path : deepestFirst) {
                Files.delete(path);
            }
        }
    }

    private static void allTestsAreNamed(String readme) throws Exception {
        try (Stream<Path> all = Files.list(Path.of("src/test/java"))) {
            for (Path path : all.toList()) {
                String name = path.getFileName().toString().replace(".java", "");
                due(name + " is named", readme.contains("`" + name + "`"), true);
            }
        }
    }
}
