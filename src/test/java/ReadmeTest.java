import java.io.ByteArrayOutputStream;
import java.io.IOException;
import java.io.PrintStream;
import java.lang.reflect.Method;
import java.lang.reflect.Modifier;
import java.nio.charset.StandardCharsets;
import java.nio.file.DirectoryStream;
import java.nio.file.Files;
import java.nio.file.Path;

/** README.md shows Example as it stands and what it prints, and names every call and every test. Run it where README.md is. */
public final class ReadmeTest {
    private static final Path README = Path.of("README.md");
    private static final Path TESTS = Path.of("src", "test", "java");

    private ReadmeTest() {
    }

    public static void main(String[] args) throws IOException {
        String readme = Files.readString(README, StandardCharsets.UTF_8);
        String example = Files.readString(TESTS.resolve("Example.java"), StandardCharsets.UTF_8);
        Checks.due("that README shows Example.java", readme.contains("```java\n" + example + "```\n"), true);
        Checks.due("that README shows what Example prints", readme.contains("```text\n" + printed() + "```\n"), true);
        for (Method method : RecyclingLine.class.getDeclaredMethods()) {
            if (Modifier.isPublic(method.getModifiers())) {
                Checks.due("that README names the call " + method.getName(), readme.contains("| `" + method.getName() + "("), true);
            }
        }
        try (DirectoryStream<Path> files = Files.newDirectoryStream(TESTS, "*.java")) {
            for (Path file : files) {
                String name = file.getFileName().toString().replace(".java", "");
                Checks.due("that README names the test class " + name, readme.contains("`" + name + "`"), true);
            }
        }
        Checks.finish();
    }

    private static String printed() {
        PrintStream out = System.out;
        ByteArrayOutputStream bytes = new ByteArrayOutputStream();
        System.setOut(new PrintStream(bytes, true, StandardCharsets.UTF_8));
        Object ended = Checks.outcome(() -> {
            Example.main(new String[0]);
            return "ended";
        });
        System.setOut(out);
        Checks.due("Example", ended, "ended");
        return bytes.toString(StandardCharsets.UTF_8).replace(System.lineSeparator(), "\n");
    }
}
