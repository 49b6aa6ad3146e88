import java.io.IOException;
import java.io.UncheckedIOException;
import java.nio.file.Files;
import java.nio.file.Path;
import java.util.LinkedHashMap;
import java.util.List;
import java.util.Map;

/** The document's sentences, by sections, and which of them a test has quoted. */
final class Sentences {
    private static final Path DOCUMENT = Path.of("../shared/DOC.md");
    private static final List<String> PARTS = List.of("ERRORS", "DRAFTS", "THE TAPE", "COSTS",
            "THE PAIRING", "CHANGES", "SHOWN", "COMPARING", "SHEETS");
    private static final Map<String, String> TEXTS = new LinkedHashMap<>();
    private static final Map<String, boolean[]> QUOTED = new LinkedHashMap<>();

    static {
        if (Files.isReadable(DOCUMENT)) {
            read();
        } else {
            System.out.println("the document is not here: its sentences are not looked up");
        }
    }

    private Sentences() {
    }

    private static void read() {
        try {
            String section = "";
            for (String line : Files.readAllLines(DOCUMENT)) {
                section = sectionAt(line, section);
                boolean isText = !line.startsWith("#") && !line.startsWith("`") && !isTitle(line);
                if (!section.isEmpty() && isText) {
                    TEXTS.merge(section, plain(line), (one, other) -> plain(one + " " + other));
                }
            }
        } catch (IOException e) {
            throw new UncheckedIOException(e);
        }
        TEXTS.forEach((section, text) -> QUOTED.put(section, new boolean[text.length()]));
    }

    private static String sectionAt(String line, String present) {
        if (line.startsWith("## Promise ")) {
            return line.substring(3, line.indexOf(':'));
        }
        if (line.startsWith("#") || line.startsWith("The constructor and the methods follow")) {
            return "";
        }
        for (String part : PARTS) {
            if (line.startsWith(part) && !present.startsWith("Promise")) {
                return part;
            }
        }
        return present;
    }

    /** A line that only names the group of the promises that follow. */
    private static boolean isTitle(String line) {
        return line.startsWith("----") && !line.contains(";");
    }

    private static String plain(String text) {
        return text.replace("`", "").replaceAll("\\s+", " ").trim();
    }

    /** Tells whether the section has this sentence, or part of one, and remembers it. */
    static boolean quote(String section, String sentence) {
        if (TEXTS.isEmpty()) {
            return true;
        }
        int at = TEXTS.getOrDefault(section, "").indexOf(plain(sentence));
        if (at < 0) {
            return false;
        }
        for (int i = 0; i < plain(sentence).length(); i++) {
            QUOTED.get(section)[at + i] = true;
        }
        return true;
    }

    /** Every letter and digit of the document's text belongs to a sentence that was quoted. */
    static void allQuoted() {
        Check.section("");
        TEXTS.forEach((section, text) -> {
            StringBuilder left = new StringBuilder();
            for (int i = 0; i < text.length(); i++) {
                boolean isQuoted = QUOTED.get(section)[i];
                left.append(isQuoted ? "" : text.charAt(i));
            }
            Check.same("what no test quotes of " + section, "",
                    left.toString().replaceAll("[^A-Za-z0-9]+", " ").trim());
        });
        Check.holds("34 promises and nine parts are known, or no document",
                TEXTS.isEmpty() || TEXTS.size() == 34 + PARTS.size());
    }
}
