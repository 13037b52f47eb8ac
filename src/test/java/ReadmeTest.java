import java.io.ByteArrayOutputStream;
import java.io.PrintStream;
import java.nio.charset.StandardCharsets;
import java.nio.file.Files;
import java.nio.file.Path;
import java.util.regex.Matcher;
import java.util.regex.Pattern;

/** README.md: its example is one that compiles, and it prints what stands there. */
public final class ReadmeTest {
    public static void main(String[] args) throws Exception {
        String readme = Files.readString(Path.of("README.md"));
        exampleIsTheFile(readme);
        examplePrints(readme);
        callsAreNamed(readme);
        testsAreNamed(readme);
        Due.end();
    }

    private static String block(String readme, String kind) {
        Matcher m = Pattern.compile("(?s)```" + kind + "\n(.*?)```").matcher(readme);
        return m.find() ? m.group(1) : "";
    }

    private static void exampleIsTheFile(String readme) throws Exception {
        String file = Files.readString(Path.of("src/test/java/Example.java"));
        Due.holds("the example is Example.java", block(readme, "java").equals(file));
    }

    private static void examplePrints(String readme) throws Exception {
        PrintStream out = System.out;
        ByteArrayOutputStream printed = new ByteArrayOutputStream();
        System.setOut(new PrintStream(printed, true, StandardCharsets.UTF_8));
        Example.main(new String[0]);
        System.setOut(out);
        String lines = printed.toString(StandardCharsets.UTF_8).replace("\r\n", "\n");
        Due.holds("the example prints " + lines, block(readme, "text").equals(lines));
    }

    private static void callsAreNamed(String readme) throws Exception {
        String document = Files.readString(Path.of("../shared/DOC.md"));
        Matcher m = Pattern.compile("public (?:int|long) (\\w+)\\(").matcher(document);
        while (m.find()) {
            Due.holds(m.group(1) + " stands in README.md", readme.contains("`" + m.group(1) + "("));
        }
    }

    private static void testsAreNamed(String readme) throws Exception {
        try (var files = Files.list(Path.of("src/test/java"))) {
            for (Path file : (Iterable<Path>) files::iterator) {
                String name = file.getFileName().toString().replace(".java", "");
                Due.holds(name + " stands in README.md",
                        !name.endsWith("Test") || readme.contains("`" + name + "`"));
            }
        }
    }
}
