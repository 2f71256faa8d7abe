import java.io.IOException;
import java.nio.file.Files;
import java.nio.file.Path;
import java.util.ArrayList;
import java.util.LinkedHashMap;
import java.util.List;
import java.util.Map;

/**
 * Sentences of the document, each with the answers that a test of its own looks at. At the end the
 * document itself is looked at: that it has each of the quotes, and that no word of what it says of
 * the class as a whole, of its terms and promises is left without a test.
 */
final class Sentences {
    private static final Path DOCUMENT = Path.of("../shared/DOC.md");

    private final Dues dues;
    private final Map<String, List<String>> quotes = new LinkedHashMap<>();
    private String now = "";
    private int answers = 1;
    private int tests;

    Sentences(String name) {
        dues = new Dues(name);
    }

    /** A test begins here; what is due until the next one begins is what this sentence asks. */
    void says(String section, String sentence) {
        dues.due("a test with answers: " + now, answers > 0, true);
        quotes.computeIfAbsent(section, key -> new ArrayList<>()).add(sentence);
        now = section + ", \"" + sentence + "\"";
        answers = 0;
        tests++;
    }

    void due(String call, Object got, Object want) {
        answers++;
        dues.due(now + ": " + call, got, want);
    }

    void end() throws IOException {
        System.out.println(tests + " tests of sentences");
        if (Files.isReadable(DOCUMENT)) {
            holdAgainst(sections(Files.readAllLines(DOCUMENT)));
        } else {
            System.out.println("the quotes are not held against the document: it is not at " + DOCUMENT);
        }
        dues.end();
    }

    private void holdAgainst(Map<String, String> sections) {
        for (String section : quotes.keySet()) {
            dues.due("the document has " + section, sections.containsKey(section), true);
        }
        for (Map.Entry<String, String> section : sections.entrySet()) {
            String name = section.getKey();
            String left = leftOver(name, section.getValue());
            if (name.equals("What it is") || name.equals("Terms") || name.startsWith("Promise ")) {
                dues.due(name + " has words without a test", left, "");
            }
        }
    }

    /** What is left of a section without the words that are quoted. */
    private String leftOver(String name, String text) {
        StringBuilder left = new StringBuilder(text);
        for (String quote : quotes.getOrDefault(name, List.of())) {
            int from = text.indexOf(quote);
            dues.due(name + " says \"" + quote + "\"", from >= 0, true);
            for (int i = from; from >= 0 && i < from + quote.length(); i++) {
                left.setCharAt(i, ' ');
            }
        }
        return left.toString().trim().replaceAll(" +", " ");
    }

    /** By the heading up to its colon: the text, in one line, without the signature it begins with. */
    private static Map<String, String> sections(List<String> lines) {
        Map<String, String> sections = new LinkedHashMap<>();
        String name = "";
        for (String line : lines) {
            if (line.startsWith("## ")) {
                name = line.substring(3).replaceAll(":.*", "").trim();
            } else {
                sections.merge(name, line, (before, more) -> before + " " + more);
            }
        }
        sections.replaceAll((key, text) -> text.trim().replaceAll("\\s+", " ").replaceFirst("^`[^`]*`: ", ""));
        return sections;
    }
}
