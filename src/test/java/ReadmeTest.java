import java.io.ByteArrayOutputStream;
import java.io.IOException;
import java.io.PrintStream;
import java.lang.reflect.Method;
import java.lang.reflect.Modifier;
import java.nio.charset.StandardCharsets;
import java.nio.file.Files;
import java.nio.file.Path;
import java.util.stream.Stream;

/** README.md shows the example as it is, what it prints, each method and each test. Run from the project's folder. */
final class ReadmeTest {
    public static void main(String[] args) throws IOException {
        Check check = new Check();
        String readme = Files.readString(Path.of("README.md"));
        String example = Files.readString(Path.of("src/test/java/Example.java"));
        String body = example.substring(example.indexOf("NoisePost post"), example.lastIndexOf("\n    }\n"));
        check.is("README.md shows the example", true, readme.contains(body.replace("\n        ", "\n")));
        String printed = printedByExample();
        check.is("README.md shows what the example prints:\n" + printed, true, readme.contains("\n" + printed));
        for (Method method : NoisePost.class.getDeclaredMethods()) {
            if (Modifier.isPublic(method.getModifiers())) {
                String call = "`" + method.getName() + "(";
                check.is("README.md tells of " + method.getName(), true, readme.contains(call));
            }
        }
        for (String test : tests()) {
            check.is("README.md tells of " + test, true, readme.contains("`" + test + "`"));
        }
        check.end("ReadmeTest");
    }

    private static String printedByExample() {
        PrintStream out = System.out;
        ByteArrayOutputStream printed = new ByteArrayOutputStream();
        System.setOut(new PrintStream(printed, true, StandardCharsets.UTF_8));
        try {
            Example.main(new String[0]);
        } finally {
            System.setOut(out);
        }
        return printed.toString(StandardCharsets.UTF_8).replace("\r\n", "\n");
    }

    private static String[] tests() throws IOException {
        try (Stream<Path> files = Files.list(Path.of("src/test/java"))) {
            return files.map(file -> file.getFileName().toString()).filter(name -> name.endsWith("Test.java"))
                .map(name -> name.replace(".java", "")).toArray(String[]::new);
        }
    }
}
