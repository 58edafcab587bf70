import java.io.ByteArrayOutputStream;
import java.io.IOException;
import java.io.PrintStream;
import java.lang.reflect.Method;
import java.lang.reflect.Modifier;
import java.net.URL;
import java.net.URLClassLoader;
import java.nio.charset.StandardCharsets;
import java.nio.file.Files;
import java.nio.file.Path;
import java.util.Comparator;
import java.util.List;
import java.util.stream.Collectors;
import java.util.stream.Stream;
import javax.tools.ToolProvider;

/** README.md: its example compiles as it stands there and prints what README.md says, and each name in it is right. */
public final class ReadmeTest {
    private static final Check CHECK = new Check("ReadmeTest");

    public static void main(String[] args) throws Exception {
        String readme = Files.readString(Path.of("README.md"));
        Path directory = Files.createTempDirectory("readme");
        try {
            exampleCompilesAndPrints(readme, directory);
        } finally {
            delete(directory);
        }
        everyMethodIsNamed(readme);
        everyTestIsNamed(readme);
        CHECK.end();
    }

    private static void exampleCompilesAndPrints(String readme, Path directory) throws Exception {
        Path source = Files.writeString(directory.resolve("Example.java"), block(readme, "java"));
        String errors = compile(source, directory);
        CHECK.due("what javac says of the example", errors, "");
        if (errors.isEmpty()) {
            CHECK.due("the example", output(directory), block(readme, "text"));
        }
    }

    private static void everyMethodIsNamed(String readme) {
        for (Method method : BallastControl.class.getDeclaredMethods()) {
            if (Modifier.isPublic(method.getModifiers())) {
                CHECK.due("README names " + method.getName(), readme.contains("`" + method.getName() + "`"), true);
            }
        }
    }

    private static void everyTestIsNamed(String readme) throws IOException {
        try (Stream<Path> files = Files.list(Path.of("src/test/java"))) {
            for (Path file : files.sorted().collect(Collectors.toList())) {
                String name = file.getFileName().toString();
                String shown = name.endsWith("Test.java") ? name.substring(0, name.length() - 5) : name;
                CHECK.due("README names " + name, readme.contains("`" + shown + "`"), true);
            }
        }
    }

    /** The lines of the one block of this language. */
    private static String block(String readme, String language) {
        String opening = "\n```" + language + "\n";
        int start = readme.indexOf(opening) + opening.length();
        int end = readme.indexOf("\n```\n", start);
        if (start < opening.length() || end < 0) {
            throw new AssertionError("README.md has no block of " + language);
        }
        return readme.substring(start, end + 1);
    }

    private static String compile(Path source, Path directory) {
        ByteArrayOutputStream errors = new ByteArrayOutputStream();
        List<String> options = List.of("-Xlint:all", "-encoding", "UTF-8", "-cp", System.getProperty("java.class.path"),
                "-d", directory.toString(), source.toString());
        ToolProvider.getSystemJavaCompiler().run(null, errors, errors, options.toArray(new String[0]));
        return errors.toString(StandardCharsets.UTF_8);
    }

    private static String output(Path directory) throws Exception {
        PrintStream before = System.out;
        ByteArrayOutputStream printed = new ByteArrayOutputStream();
        try (URLClassLoader loader = new URLClassLoader(new URL[] {directory.toUri().toURL()})) {
            Method main = loader.loadClass("Example").getMethod("main", String[].class);
            main.setAccessible(true);
            System.setOut(new PrintStream(printed, true, StandardCharsets.UTF_8));
            main.invoke(null, (Object) new String[0]);
        } finally {
            System.setOut(before);
        }
        return printed.toString(StandardCharsets.UTF_8).replace(System.lineSeparator(), "\n");
    }

    private static void delete(Path directory) throws IOException {
        try (Stream<Path> paths = Files.walk(directory)) {
            for (Path path : paths.sorted(Comparator.reverseOrder()).collect(Collectors.toList())) {
                Files.delete(path);
            }
        }
    }
}
