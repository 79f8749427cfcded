import java.io.ByteArrayOutputStream;
import java.io.IOException;
import java.io.PrintStream;
import java.lang.reflect.Method;
import java.lang.reflect.Modifier;
import java.nio.file.Files;
import java.nio.file.Path;
import java.util.List;

/** That README.md shows Example.java as it is and what it prints, and names every call and every test there is. */
public final class ReadmeTest {
    private static final Path TESTS = Path.of("src/test/java");

    public static void main(String[] args) throws IOException {
        String readme = Files.readString(Path.of("README.md"));
        String example = Files.readString(TESTS.resolve("Example.java"));
        Check.due("README shows Example.java", readme.contains("```java\n" + example + "```\n"), true);
        Check.due("README shows what it prints", readme.contains("```text\n" + printed() + "```\n"), true);
        for (Method method : ShoeOrchard.class.getDeclaredMethods()) {
            if (Modifier.isPublic(method.getModifiers())) {
                Check.due("README tells of " + method.getName(), readme.contains("`" + method.getName() + "("), true);
            }
        }
        for (Path file : files()) {
            String name = file.getFileName().toString().replace(".java", "");
            Check.due("README tells of " + name, !name.matches(".*(Test|Edges)") || readme.contains(name), true);
        }
        Check.end();
    }

    private static String printed() {
        PrintStream before = System.out;
        ByteArrayOutputStream bytes = new ByteArrayOutputStream();
        System.setOut(new PrintStream(bytes));
        try {
            Example.main(new String[0]);
        } finally {
            System.setOut(before);
        }
        return bytes.toString().replace(System.lineSeparator(), "\n");
    }

    private static List<Path> files() throws IOException {
        try (var files = Files.list(TESTS)) {
            return files.toList();
        }
    }
}
