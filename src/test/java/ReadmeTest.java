import java.io.ByteArrayOutputStream;
import java.io.IOException;
import java.io.PrintStream;
import java.net.URL;
import java.net.URLClassLoader;
import java.nio.charset.StandardCharsets;
import java.nio.file.Files;
import java.nio.file.Path;
import java.util.ArrayList;
import java.util.List;
import javax.tools.ToolProvider;

/** Compiles and runs the example of README.md and compares what it prints with what it says. */
public final class ReadmeTest {
    private static final Checks CHECKS = new Checks();
    private static final String PRINT = "System.out.println(";

    public static void main(String[] args) throws Exception {
        List<String> example = example(Files.readAllLines(Path.of("README.md")));
        List<String> due = new ArrayList<>();
        for (String line : example) {
            if (line.contains(PRINT)) {
                due.add(line.substring(line.indexOf("//") + 2).trim());
            }
        }
        CHECKS.due("the example prints something", due.isEmpty(), false);
        List<String> got = printed(example);
        for (int i = 0; i < Math.min(got.size(), due.size()); i++) {
            CHECKS.due("line " + i + " that the example prints", got.get(i), due.get(i));
        }
        CHECKS.due("the number of lines", got.size(), due.size());
        CHECKS.end();
    }

    private static List<String> example(List<String> readme) {
        int first = readme.indexOf("```java") + 1;
        List<String> rest = readme.subList(first, readme.size());
        return rest.subList(0, rest.indexOf("```"));
    }

    private static List<String> printed(List<String> example) throws Exception {
        Path folder = Files.createTempDirectory("readme");
        Path source = folder.resolve("Example.java");
        Path compiled = folder.resolve("Example.class");
        try {
            Files.write(source, example);
            int code = ToolProvider.getSystemJavaCompiler().run(null, null, null,
                    "-cp", System.getProperty("java.class.path"),
                    "-d", folder.toString(), source.toString());
            CHECKS.due("the example compiles", code, 0);
            return code == 0 ? run(folder) : List.of();
        } finally {
            Files.deleteIfExists(compiled);
            Files.deleteIfExists(source);
            Files.deleteIfExists(folder);
        }
    }

    private static List<String> run(Path folder) throws IOException, ReflectiveOperationException {
        PrintStream before = System.out;
        ByteArrayOutputStream bytes = new ByteArrayOutputStream();
        try (URLClassLoader loader = new URLClassLoader(new URL[] {folder.toUri().toURL()})) {
            System.setOut(new PrintStream(bytes, true, StandardCharsets.UTF_8));
            loader.loadClass("Example").getMethod("main", String[].class)
                    .invoke(null, (Object) new String[0]);
        } finally {
            System.setOut(before);
        }
        return bytes.toString(StandardCharsets.UTF_8).lines().toList();
    }
}
