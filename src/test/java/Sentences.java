import java.io.IOException;
import java.nio.file.Files;
import java.nio.file.Path;
import java.util.LinkedHashMap;
import java.util.Map;

/** A Check whose answers stand under the sentence of the document by which they are due. */
final class Sentences extends Check {
    private static final Path DOCUMENT = Path.of("../shared/DOC.md");
    private final Map<String, String> sections;
    private final Map<String, String> unquoted;
    private String quoted = "";
    private int answers = 1;

    Sentences(String name) throws IOException {
        super(name);
        sections = Files.exists(DOCUMENT) ? sectionsOf(Files.readString(DOCUMENT)) : new LinkedHashMap<>();
        unquoted = new LinkedHashMap<>(sections);
    }

    /** The terms by their numbers, the promises by theirs, the rest by a word; each as one line. FaceTest has the face. */
    private static Map<String, String> sectionsOf(String document) {
        Map<String, String> of = new LinkedHashMap<>();
        String key = "";
        for (String line : document.split("\n")) {
            key = line.startsWith("# ") ? "" : keyOf(line, key);
            if (!key.isEmpty() && !line.startsWith("## ") && !line.startsWith("```")) {
                of.merge(key, withoutHead(line), (a, b) -> (a + " " + b).strip().replaceAll("\\s+", " "));
            }
        }
        return of;
    }

    private static String keyOf(String line, String before) {
        if (line.startsWith("## ")) {
            String head = line.substring(3);
            switch (head) {
                case "What it is": return "what";
                case "The public face": return "";
                case "Terms": return "terms";
                case "Not promised": return "free";
                default: return head.replaceAll("Promise (\\d+):.*", "$1");
            }
        }
        if (line.matches("(I|II|III|IV)\\. .*")) {
            return line.substring(0, line.indexOf('.'));
        }
        if (line.startsWith("The constants:")) {
            return "constants";
        }
        return line.startsWith("Ahead of the calls") ? "ahead" : before;
    }

    private static String withoutHead(String line) {
        return line.replaceAll("^(I|II|III|IV)\\. |^The constants: |^`[^`]*\\)`: ", "").strip();
    }

    /** What follows is due by this sentence, which the document must have word for word. */
    void of(String section, String quote) {
        endSentence();
        quoted = section + " \"" + quote + "\": ";
        answers = 0;
        if (!sections.isEmpty()) {
            String left = unquoted.getOrDefault(section, "");
            super.due(quoted + "stands in the document", left.contains(quote) ? 1 : 0, 1);
            int at = Math.max(0, left.indexOf(quote));
            int end = left.contains(quote) ? at + quote.length() : at;
            unquoted.put(section, left.substring(0, at) + "|" + left.substring(end));
        }
    }

    @Override
    void due(String call, long got, long want) {
        answers++;
        super.due(quoted + call, got, want);
    }

    private void endSentence() {
        super.due(quoted + "has answers", answers > 0 ? 1 : 0, 1);
    }

    @Override
    void finish() {
        endSentence();
        unquoted.forEach((section, left) -> super.due(section + ": not quoted is " + left,
            left.matches(".*[A-Za-z0-9].*") ? 1 : 0, 0));
        super.finish();
    }
}
