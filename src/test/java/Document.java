import java.nio.file.Files;
import java.nio.file.Path;
import java.util.LinkedHashMap;
import java.util.Map;
import java.util.Set;
import java.util.TreeSet;
import java.util.regex.Pattern;

/** Tests of single sentences: each names the sentence of the document that it would find broken. */
final class Document {
    private static final Path FILE = Path.of("../shared/DOC.md");
    private static final Pattern HEADING = Pattern.compile("## .*|[A-Z][A-Z, ]+");
    private static final Pattern LINE = Pattern.compile("(- `|Returns |Throws ).*");

    private static final Set<String> tested = new TreeSet<>();

    private Document() {
    }

    /** The section is a heading under "Terms", or "Promise" and its number. */
    static void test(String section, String sentence, Checks.Body body) {
        test(section, sentence, "", body);
    }

    /** For a sentence that has several tests: one of its cases. */
    static void test(String section, String sentence, String oneCase, Checks.Body body) {
        tested.add(section + ": " + sentence);
        String name = section + ": " + sentence + (oneCase.isEmpty() ? "" : " (" + oneCase + ")");
        Checks.test(name, () -> {
            Checks.isTrue(sections().getOrDefault(section, "").contains(sentence), "the document has no such sentence");
            body.run();
        });
    }

    /** What a promise says of an argument, an answer or a refusal must have a test by its own words. */
    static void everyLineIsTested() throws Exception {
        Map<String, String> sections = sections();
        int lines = 0;
        for (String section : sections.keySet()) {
            for (String line : sections.get(section).split("\n")) {
                if (section.startsWith("Promise ") && LINE.matcher(line).matches()) {
                    lines++;
                    Checks.isTrue(tested.contains(section + ": " + line), "no test of " + section + ": " + line);
                }
            }
        }
        Checks.same(70, lines, "lines that tell an argument, an answer or a refusal");
    }

    static Map<String, String> sections() throws Exception {
        Map<String, String> sections = new LinkedHashMap<>();
        String section = "";
        for (String line : Files.readString(FILE).split("\n")) {
            if (HEADING.matcher(line).matches()) {
                section = line.replace("## ", "").replaceAll(":.*", "");
            }
            sections.merge(section, line + "\n", String::concat);
        }
        return sections;
    }
}
