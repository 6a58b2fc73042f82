import java.io.ByteArrayOutputStream;
import java.io.IOException;
import java.io.PrintStream;
import java.lang.reflect.Method;
import java.lang.reflect.Modifier;
import java.nio.charset.StandardCharsets;
import java.nio.file.Files;
import java.nio.file.Path;
import java.util.List;
import java.util.TreeSet;
import java.util.stream.Collectors;
import java.util.stream.Stream;

/** README.md tells what holds: its example, what that prints, every call, every test. */
public final class ReadmeTest {
    private static final Path TESTS = Path.of("src/test/java");

    public static void main(String[] args) throws IOException {
        String readme = text(Path.of("README.md"));
        String example = text(TESTS.resolve("Example.java"));
        Check.due("the example stands in README.md", readme.contains("```java\n" + example + "```"), true);
        String printed = printed();
        Check.due("README.md tells what the example prints, now: " + printed,
            readme.contains("```text\n" + printed + "```"), true);
        for (String call : calls()) {
            Check.due("README.md's table of calls has " + call, inTables(readme, call), 1);
        }
        for (String test : tests()) {
            Check.due("README.md's table of tests has " + test, inTables(readme, test), 1);
        }
        Check.end("ReadmeTest");
    }

    private static String text(Path path) throws IOException {
        return Files.readString(path, StandardCharsets.UTF_8).replace("\r\n", "\n");
    }

    private static String printed() {
        PrintStream before = System.out;
        ByteArrayOutputStream bytes = new ByteArrayOutputStream();
        System.setOut(new PrintStream(bytes, true, StandardCharsets.UTF_8));
        try {
            Example.main(new String[0]);
        } finally {
            System.setOut(before);
        }
        return bytes.toString(StandardCharsets.UTF_8).replace("\r\n", "\n");
    }

    private static TreeSet<String> calls() {
        TreeSet<String> names = new TreeSet<>();
        for (Method method : WhiteBoard.class.getDeclaredMethods()) {
            if (Modifier.isPublic(method.getModifiers())) {
                names.add(method.getName());
            }
        }
        return names;
    }

    private static List<String> tests() throws IOException {
        try (Stream<Path> files = Files.list(TESTS)) {
            return files.map(file -> file.getFileName().toString()).filter(name -> name.endsWith("Test.java"))
                .map(name -> name.substring(0, name.length() - ".java".length())).sorted().collect(Collectors.toList());
        }
    }

    /** In how many of the tables' rows the name stands by itself. */
    private static long inTables(String readme, String name) {
        return readme.lines().filter(line -> line.startsWith("|") && line.contains("`" + name + "`")).count();
    }
}
