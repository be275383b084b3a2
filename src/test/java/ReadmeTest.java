import java.io.ByteArrayOutputStream;
import java.io.PrintStream;
import java.nio.file.Files;
import java.nio.file.Path;
import java.util.ArrayList;
import java.util.List;
import java.util.Map;
import java.util.regex.Matcher;
import java.util.regex.Pattern;

/** README.md tells what the document says, and an example that prints what it says. */
final class ReadmeTest {
    private static final Path README = Path.of("README.md");
    private static final Path EXAMPLE = Path.of("src/test/java/Example.java");
    private static final Pattern SIGNATURE = Pattern.compile("`(.*?\\))(?: throws .*?)?`: (.*)");
    private static final Pattern PRINTED = Pattern.compile("System\\.out\\.println\\(.*// (\\S+): .*");
    private static final Pattern TERMS = Pattern.compile("What it is|Terms|[A-Z][A-Z, ]+");

    private ReadmeTest() {
    }

    static void run() {
        Checks.test("readme: each call with what it does, answers and throws, in the document's words", ReadmeTest::calls);
        Checks.test("readme: no call that the document does not have", ReadmeTest::noOtherCalls);
        Checks.test("readme: each term in the document's words", ReadmeTest::terms);
        Checks.test("readme: the example is that of the tests", ReadmeTest::quotedExample);
        Checks.test("readme: the example prints what stands behind its lines", ReadmeTest::printedAnswers);
    }

    private static void calls() throws Exception {
        String readme = inOneLine(Files.readString(README));
        int promises = 0;
        for (Map.Entry<String, String> section : Document.sections().entrySet()) {
            if (section.getKey().startsWith("Promise ")) {
                promises++;
                String entry = entryOf(section.getValue());
                Checks.isTrue(readme.contains(entry), "README.md has not: " + entry);
            }
        }
        Checks.same(35, promises, "promises");
    }

    /** What README.md has of a promise: the call without its throws clause, and the lines as a list below it. */
    private static String entryOf(String promise) {
        StringBuilder entry = new StringBuilder();
        for (String line : linesOf(promise)) {
            Matcher signature = SIGNATURE.matcher(line);
            if (signature.matches()) {
                entry.append("- `").append(signature.group(1)).append("`: ").append(signature.group(2));
            } else {
                entry.append(line.startsWith("- ") ? " " : " - ").append(line);
            }
        }
        return inOneLine(entry.toString());
    }

    private static void noOtherCalls() throws Exception {
        Matcher calls = Pattern.compile("(?m)^- `[^`]*\\)`: ").matcher(Files.readString(README));
        int found = 0;
        while (calls.find()) {
            found++;
        }
        Checks.same(35, found, "calls in README.md");
    }

    private static void terms() throws Exception {
        String readme = inOneLine(Files.readString(README));
        int paragraphs = 0;
        for (Map.Entry<String, String> section : Document.sections().entrySet()) {
            if (TERMS.matcher(section.getKey()).matches()) {
                for (String line : linesOf(section.getValue())) {
                    paragraphs++;
                    Checks.isTrue(readme.contains(inOneLine(line)), "README.md has not: " + line);
                }
            }
        }
        Checks.same(14, paragraphs, "paragraphs of terms");
    }

    /** The lines of a section but for its heading, and for those that tell the order of the interface. */
    private static List<String> linesOf(String section) {
        List<String> lines = new ArrayList<>();
        for (String line : section.split("\n")) {
            boolean isHeading = line.startsWith("## ") || TERMS.matcher(line).matches();
            if (!line.isBlank() && !isHeading && !line.startsWith("Ahead of the calls")) {
                lines.add(line);
            }
        }
        return lines;
    }

    private static void quotedExample() throws Exception {
        String block = "```java\n" + Files.readString(EXAMPLE) + "```\n";
        Checks.isTrue(Files.readString(README).contains(block), "README.md has another example than " + EXAMPLE);
    }

    private static void printedAnswers() throws Exception {
        List<String> due = new ArrayList<>();
        Matcher lines = PRINTED.matcher(Files.readString(EXAMPLE));
        while (lines.find()) {
            due.add(lines.group(1));
        }
        Checks.same(21, due.size(), "lines that print");
        Checks.same(due, printedByExample(), "printed");
    }

    private static List<String> printedByExample() {
        PrintStream before = System.out;
        ByteArrayOutputStream printed = new ByteArrayOutputStream();
        System.setOut(new PrintStream(printed, true));
        try {
            Example.main(new String[0]);
        } finally {
            System.setOut(before);
        }
        return printed.toString().lines().toList();
    }

    private static String inOneLine(String text) {
        return text.replaceAll("\\s+", " ").trim();
    }
}
