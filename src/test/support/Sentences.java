import java.io.IOException;
import java.nio.file.Files;
import java.nio.file.Path;
import java.util.LinkedHashMap;
import java.util.Map;
import java.util.Set;

/**
 * The sentences of the document. A test names the one that it looks at; it has to stand in the document word by word,
 * and something has to be looked at before the next one is named.
 */
public final class Sentences {
    // these stand in the document as headings without a mark
    private static final Set<String> UNMARKED = Set.of("Faces, trucks", "Crusher, bins", "An hour, a day");
    private static final Path DOCUMENT = Path.of("../shared/DOC.md");
    // where the document is out of reach, its sentences are tested without being looked up
    private static final boolean IN_REACH = Files.isReadable(DOCUMENT);
    private static final Map<String, String> SECTIONS = IN_REACH ? sectionsOf(DOCUMENT) : Map.of();

    private static String heading = "";
    private static String withoutTest = "";
    private static String sentence = "";
    private static int madeBefore;

    private Sentences() {
    }

    private static Map<String, String> sectionsOf(Path document) {
        Map<String, String> sections = new LinkedHashMap<>();
        String latest = "";
        try {
            for (String line : Files.readAllLines(document)) {
                if (line.startsWith("#") || UNMARKED.contains(line)) {
                    latest = line.replaceFirst("^#+ ", "");
                    sections.put(latest, "");
                } else if (!line.startsWith("```")) {
                    sections.merge(latest, line + " ", String::concat);
                }
            }
        } catch (IOException e) {
            throw new IllegalStateException(e);
        }
        sections.replaceAll((itsHeading, text) -> inOneLine(text));
        return sections;
    }

    private static String inOneLine(String words) {
        return words.trim().replaceAll("\\s+", " ");
    }

    static Set<String> headings() {
        return SECTIONS.keySet();
    }

    /** The tests that follow are about sentences below this heading. */
    static void under(String itsHeading) {
        endSentence();
        heading = itsHeading;
        withoutTest = SECTIONS.getOrDefault(itsHeading, "");
        Checks.about(heading);
        if (IN_REACH) {
            Checks.due("the heading is in the document", SECTIONS.containsKey(itsHeading) ? 1 : 0, 1);
        }
    }

    /** The tests that follow are about this sentence. */
    static void says(String words) {
        endSentence();
        Checks.about(heading + ", \"" + words + "\"");
        if (IN_REACH) {
            lookUp(inOneLine(words));
        }
        sentence = words;
        madeBefore = Checks.made();
    }

    private static void lookUp(String words) {
        int at = withoutTest.indexOf(words);
        Checks.due("the sentence is in the document, and not looked at before", at >= 0 ? 1 : 0, 1);
        if (at >= 0) {
            withoutTest = withoutTest.substring(0, at) + "|" + withoutTest.substring(at + words.length());
        }
    }

    /** Every sentence below the heading has been named. */
    static void whole() {
        endSentence();
        Checks.about(heading);
        Checks.due("words without a test", withoutTest.replaceAll("[^A-Za-z0-9]+", " ").trim(), "");
    }

    private static void endSentence() {
        if (!sentence.isEmpty()) {
            Checks.due("something is looked at", Checks.made() > madeBefore ? 1 : 0, 1);
        }
        sentence = "";
    }

    static void end() {
        endSentence();
        Checks.about("");
        Checks.end();
    }
}
