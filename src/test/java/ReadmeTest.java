import java.io.ByteArrayOutputStream;
import java.io.IOException;
import java.io.PrintStream;
import java.net.URL;
import java.net.URLClassLoader;
import java.nio.charset.StandardCharsets;
import java.nio.file.Files;
import java.nio.file.Path;
import java.util.ArrayList;
import java.util.List;
import java.util.Set;
import java.util.TreeSet;
import java.util.regex.Matcher;
import java.util.regex.Pattern;
import java.util.stream.Stream;
import javax.tools.ToolProvider;

/** What README.md shows is so: its program prints what it says, its tables have every call and every test. */
public final class ReadmeTest {
    private static final Path README = Path.of("README.md");
    private static final Path DOCUMENT = Path.of("..", "shared", "DOC.md");
    private static final Path TESTS = Path.of("src", "test", "java");

    private ReadmeTest() {
    }

    public static void main(String[] args) throws IOException, ReflectiveOperationException {
        String readme = Files.readString(README);
        program(between(readme, "```java\n", "```"));
        calls(readme, face(Path.of(args[0])));
        tests(readme);
        Check.end("ReadmeTest");
    }

    private static String between(String text, String from, String to) {
        int start = text.indexOf(from);
        int end = start < 0 ? -1 : text.indexOf(to, start + from.length());
        Check.hold("there is " + from.strip(), end >= 0);
        return end < 0 ? "" : text.substring(start + from.length(), end);
    }

    private static void program(String source) throws IOException, ReflectiveOperationException {
        List<String> due = new ArrayList<>();
        for (String line : source.split("\n")) {
            if (line.contains("System.out.println")) {
                int said = line.indexOf("// ");
                Check.hold("what it prints stands behind " + line.strip(), said >= 0);
                due.add(said < 0 ? "" : line.substring(said + 3).split(": ")[0].strip());
            }
        }
        Check.hold("the program shows some answers", due.size() >= 20);
        List<String> got = List.of(printed(source).split("\n"));
        Check.same("lines that the program prints", due.size(), got.size());
        for (int i = 0; i < due.size() && i < got.size(); i++) {
            Check.text("line " + (i + 1) + " that the program prints", due.get(i), got.get(i));
        }
    }

    /** Compiles the program as it stands, runs it, and tells what it prints. */
    private static String printed(String source) throws IOException, ReflectiveOperationException {
        Path dir = Files.createTempDirectory("readme");
        Path file = Files.writeString(dir.resolve("Example.java"), source);
        String classes = System.getProperty("java.class.path");
        int failed = ToolProvider.getSystemJavaCompiler().run(null, null, null,
            "-Xlint:all", "-Werror", "-cp", classes, "-d", dir.toString(), file.toString());
        Check.same("the program compiles", 0, failed);
        PrintStream out = System.out;
        ByteArrayOutputStream kept = new ByteArrayOutputStream();
        if (failed == 0) {
            System.setOut(new PrintStream(kept, true, StandardCharsets.UTF_8));
            try (URLClassLoader loader = new URLClassLoader(new URL[] {dir.toUri().toURL()})) {
                loader.loadClass("Example").getMethod("main", String[].class).invoke(null, (Object) new String[0]);
            } finally {
                System.setOut(out);
            }
        }
        remove(dir);
        return kept.toString(StandardCharsets.UTF_8);
    }

    private static void remove(Path dir) throws IOException {
        List<Path> inside;
        try (Stream<Path> files = Files.list(dir)) {
            inside = files.toList();
        }
        for (Path file : inside) {
            Files.delete(file);
        }
        Files.delete(dir);
    }

    /** The document's face; where there is no document, the class itself, which has the same one. */
    private static String face(Path source) throws IOException {
        if (!Files.exists(DOCUMENT)) {
            return Files.readString(source);
        }
        return between(Files.readString(DOCUMENT), "```java\n", "```");
    }

    /** The table of calls has each method of the document's face with its parameters, promise by promise. */
    private static void calls(String readme, String face) {
        StringBuilder due = new StringBuilder();
        Matcher method = Pattern.compile("(?m)^    public (?:boolean|int|long) (\\w+)\\(([^)]*)\\)").matcher(face);
        for (int promise = 2; method.find(); promise++) {
            String names = method.group(2).replaceAll("(int|boolean) ", "");
            due.append("| ").append(promise).append(" | `").append(method.group(1)).append('(').append(names).append(")`\n");
        }
        StringBuilder got = new StringBuilder();
        Matcher row = Pattern.compile("(?m)^\\| \\d+ \\| `[^`]*`").matcher(readme);
        while (row.find()) {
            got.append(row.group()).append('\n');
        }
        Check.text("the table of calls", due.toString(), got.toString());
    }

    private static void tests(String readme) throws IOException {
        Set<String> due = new TreeSet<>();
        try (Stream<Path> files = Files.list(TESTS)) {
            files.map(file -> file.getFileName().toString()).filter(name -> name.endsWith("Test.java"))
                .forEach(name -> due.add(name.substring(0, name.length() - 5)));
        }
        Set<String> got = new TreeSet<>();
        Matcher row = Pattern.compile("(?m)^\\| `(\\w+Test)` \\|").matcher(readme);
        while (row.find()) {
            got.add(row.group(1));
        }
        Check.text("the table of tests", due.toString(), got.toString());
    }
}
