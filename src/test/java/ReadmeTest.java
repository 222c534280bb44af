import java.io.ByteArrayOutputStream;
import java.io.IOException;
import java.io.PrintStream;
import java.lang.reflect.Method;
import java.lang.reflect.Modifier;
import java.nio.file.Files;
import java.nio.file.Path;

/** README.md names all of the face, and its example is Example.java with what that prints. */
public final class ReadmeTest {
    public static void main(String[] args) throws IOException {
        String readme = Files.readString(Path.of("README.md"));
        face(readme);
        example(readme);
        tests(readme);
        Check.end();
    }

    private static void face(String readme) {
        Check.isTrue("README tells the constructor", readme.contains("| `SoundShelf()` |"));
        Check.isTrue("README tells NONE", readme.contains("`SoundShelf.NONE`"));
        for (Method method : SoundShelf.class.getDeclaredMethods()) {
            if (Modifier.isPublic(method.getModifiers())) {
                method(readme, method);
            }
        }
    }

    private static void method(String readme, Method method) {
        String row = rowOf(readme, method);
        Check.isTrue("README tells " + method.getName(), !row.isEmpty());
        for (Class<?> thrown : method.getExceptionTypes()) {
            Check.isTrue(
                "README tells that " + method.getName() + " throws " + thrown.getSimpleName(),
                row.contains("`" + thrown.getSimpleName() + "`"));
        }
    }

    private static String rowOf(String readme, Method method) {
        String start = "| `" + method.getReturnType().getSimpleName() + " " + method.getName() + "(";
        return readme.lines().filter(line -> line.startsWith(start)).findFirst().orElse("");
    }

    private static void example(String readme) throws IOException {
        String source = Files.readString(Path.of("src/test/java/Example.java"));
        Check.isTrue("README shows Example.java as it is", readme.contains("```java\n" + source + "```\n"));
        Check.isTrue("README shows what it prints", readme.contains("```text\n" + printedByExample() + "```\n"));
    }

    private static String printedByExample() {
        PrintStream out = System.out;
        ByteArrayOutputStream printed = new ByteArrayOutputStream();
        System.setOut(new PrintStream(printed, true));
        Example.main(new String[0]);
        System.setOut(out);
        return printed.toString().replace("\r\n", "\n");
    }

    private static void tests(String readme) throws IOException {
        Check.isTrue("README tells how to run the tests", readme.contains("`.ci/run`"));
        try (var files = Files.list(Path.of("src/test/java"))) {
            for (Path file : files.toList()) {
                String name = file.getFileName().toString().replace(".java", "");
                Check.isTrue("README tells " + name, readme.contains("`" + name + "`"));
            }
        }
    }
}
