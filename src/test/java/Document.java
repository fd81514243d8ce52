import java.io.IOException;
import java.nio.file.Files;
import java.nio.file.Path;
import java.util.ArrayList;
import java.util.LinkedHashMap;
import java.util.List;
import java.util.Map;

/**
 * The text of ../shared/DOC.md by its headings, cut into sentences: a sentence ends with a full stop, with a semicolon
 * or with its line of a list.
 */
final class Document {
    private static final Path PLACE = Path.of("../shared/DOC.md");
    private static final String END_OF_SENTENCE = "(?<=[.;]\\)?)\\s+";

    private final Map<String, List<String>> sentences = new LinkedHashMap<>();
    private List<String> current = new ArrayList<>();
    private final StringBuilder block = new StringBuilder();

    private Document() {
    }

    static Map<String, List<String>> sentences() throws IOException {
        Document document = new Document();
        boolean inCode = false;
        for (String line : Files.readAllLines(PLACE)) {
            inCode ^= line.startsWith("```");
            if (!inCode && !line.startsWith("```")) {
                document.take(line);
            }
        }
        document.endBlock();
        return document.sentences;
    }

    private void take(String line) {
        boolean isHeading = line.startsWith("#");
        boolean isSignature = line.startsWith("`") && line.endsWith(")`");
        boolean isMark = line.startsWith("----");
        if (line.isBlank() || isHeading || isSignature || isMark || line.startsWith("- ") || line.startsWith("  ")) {
            endBlock();
        }
        if (isHeading) {
            current = sentences.computeIfAbsent(line.replaceFirst("^#+ ", ""), heading -> new ArrayList<>());
        } else if (!isSignature && !isMark) {
            block.append(' ').append(line.startsWith("- ") ? line.substring(2) : line);
        }
        if (line.startsWith("  \"")) {
            endBlock();
        }
    }

    private void endBlock() {
        String text = block.toString().strip().replaceAll("\\s+", " ");
        block.setLength(0);
        for (String sentence : text.split(END_OF_SENTENCE)) {
            if (!sentence.isEmpty()) {
                current.add(sentence);
            }
        }
    }
}
