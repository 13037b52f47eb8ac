import java.nio.file.Files;
import java.nio.file.Path;
import java.util.ArrayList;
import java.util.List;
import java.util.regex.Pattern;

/** SENTENCES.md: no word of the document is left out there, and the tests that it names are run. */
public final class DocumentTest {
    private static final Path DOCUMENT = Path.of("../shared/DOC.md"), SENTENCES = Path.of("SENTENCES.md");
    private static final Path TESTS = Path.of("src/test/java");

    public static void main(String[] args) throws Exception {
        wholeDocument();
        testsAreRun();
        Due.end();
    }

    /** The rows' first cell (0) or the second one (1). */
    private static List<String> cells(int column) throws Exception {
        List<String> cells = new ArrayList<>();
        for (String line : Files.readAllLines(SENTENCES)) {
            boolean row = line.startsWith("| ") && !line.equals("| words | tests |") && !line.startsWith("| ---");
            if (row) {
                String[] parts = line.substring(2, line.length() - 2).split(" \\| ");
                Due.is("cells of: " + line, parts.length, 2);
                cells.add(parts[column]);
            }
        }
        return cells;
    }

    private static String bare(String words) {
        return words.replaceAll("[\\s`]", "");
    }

    /** The document without headings, the java lines of the face, and the calls ahead of promises. */
    private static String documentWords() throws Exception {
        return bare(Files.readString(DOCUMENT)
                .replaceAll("(?s)```java.*?```", "")
                .replaceAll("```(text)?", "")
                .replaceAll("(?m)^#.*$", "")
                .replaceAll("(?m)^==== \\d", "")
                .replaceAll("(?m)^`[^`]*`: ", ""));
    }

    private static void wholeDocument() throws Exception {
        String document = documentWords();
        int at = 0;
        for (String cell : cells(0)) {
            String words = bare(cell);
            Due.holds("the document goes on with: " + cell, document.startsWith(words, at));
            at += words.length();
        }
        Due.is("words of the document", at, document.length());
    }

    private static void testsAreRun() throws Exception {
        for (String cell : cells(1)) {
            if (cell.equals("-")) {
                continue;
            }
            for (String test : cell.split(", ")) {
                String[] names = test.split("\\.");
                Path file = TESTS.resolve(names[0] + ".java");
                boolean there = names[0].endsWith("Test") && Files.exists(file);
                Due.holds(names[0] + " is there", there);
                if (there && names.length > 1) {
                    isRun(test, names[1], Files.readString(file));
                }
            }
        }
    }

    private static void isRun(String test, String name, String code) {
        Due.holds(test + " is there", code.contains("private static void " + name + "() "));
        Due.holds(test + " is run", Pattern.compile("(?m)^ +" + name + "\\(\\);$").matcher(code).find());
    }
}
