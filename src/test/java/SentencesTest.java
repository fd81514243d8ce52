import java.io.IOException;

/** Each sentence of the document has a test of its own, which passes. */
public final class SentencesTest {
    public static void main(String[] args) throws IOException {
        Checks checks = new Checks();
        Sentences sentences = Sentences.ofTheDocument();
        sentences.compareWithDocument(checks);
        for (Sentences.Sentence sentence : sentences.list()) {
            int before = checks.wrong();
            int made = checks.made();
            sentence.test.accept(checks);
            checks.due(sentence + ": has checks", checks.made() > made ? 1 : 0, 1);
            if (checks.wrong() > before) {
                System.out.println("  which breaks: " + sentence);
            }
        }
        System.out.println(sentences.list().size() + " sentences and parts of sentences");
        checks.end();
    }
}
