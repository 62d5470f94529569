import java.io.IOException;
import java.nio.file.Files;
import java.nio.file.Path;
import java.util.ArrayList;
import java.util.LinkedHashSet;
import java.util.List;
import java.util.Set;

/**
 * The sentences of the document, each behind the section in which it stands: "Promise 7: UNKNOWN",
 * "Terms, deleting: ...". What stands between two semicolons of an answer line is a sentence, too.
 */
final class Document {
    private static final Path PLACE = Path.of("../shared/DOC.md");

    private final Set<String> sentences = new LinkedHashSet<>();
    private String section = "";

    private Document() {
    }

    /** Of the document's head, the terms and the promises. */
    static Set<String> sentences() throws IOException {
        Document document = new Document();
        for (String line : Files.readAllLines(PLACE)) {
            document.read(line.strip());
        }
        return document.sentences;
    }

    private void read(String line) {
        if (line.startsWith("#")) {
            section = line.replaceFirst("^#+ ", "").replaceFirst(":.*", "");
        } else if (section.startsWith("Terms") && line.matches("[A-Z, ]+")) {
            section = "Terms, " + line.toLowerCase();
        } else if (section.equals("What it is") || section.startsWith("Terms,") || section.startsWith("Promise ")) {
            readSentences(line);
        }
    }

    private void readSentences(String line) {
        boolean isList = line.startsWith("Returns ") && section.startsWith("Promise ");
        String words = line.replaceFirst("^- ", "").replaceFirst("^`[^`]*\\)`: ", "");
        for (String part : parts(words, isList ? "; " : ". ")) {
            String sentence = part.replaceFirst("[.;]$", "");
            if (!sentence.isEmpty()) {
                sentences.add(section + ": " + sentence);
            }
        }
    }

    /** Splits outside of brackets alone. */
    private static List<String> parts(String words, String between) {
        List<String> parts = new ArrayList<>();
        int depth = 0;
        int start = 0;
        for (int index = 0; index < words.length(); index++) {
            char character = words.charAt(index);
            depth += character == '(' ? 1 : character == ')' ? -1 : 0;
            if (depth == 0 && words.startsWith(between, index)) {
                parts.add(words.substring(start, index));
                start = index + between.length();
            }
        }
        parts.add(words.substring(start));
        return parts;
    }
}
