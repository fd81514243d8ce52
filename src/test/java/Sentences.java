import java.io.IOException;
import java.util.ArrayList;
import java.util.List;
import java.util.Map;
import java.util.function.Consumer;

/**
 * The sentences of the document, each with the test that is its own and with the ways of breaking the class which that
 * test must notice.
 */
final class Sentences {
    /** In the source, between where it first says this and the end of that method, a text gives way to another one. */
    record Break(String where, String text, String other) {
    }

    static final class Sentence {
        final String heading;
        final String words;
        final Consumer<Checks> test;
        final List<Break> breaks = new ArrayList<>();

        Sentence(String heading, String words, Consumer<Checks> test) {
            this.heading = heading;
            this.words = words;
            this.test = test;
        }

        /** Spaces in the text stand for any white space of the source. */
        Sentence brokenBy(String where, String text, String other) {
            breaks.add(new Break(where, text, other));
            return this;
        }

        Sentence brokenBy(String text, String other) {
            return brokenBy("", text, other);
        }

        @Override
        public String toString() {
            return heading + ": " + words;
        }
    }

    private final List<Sentence> all = new ArrayList<>();
    private final List<Sentence> free = new ArrayList<>();
    private String heading = "";

    static final int GROUPS = 8;

    static Sentences ofTheDocument() {
        Sentences sentences = new Sentences();
        for (int group = 0; group < GROUPS; group++) {
            sentences.take(group);
        }
        return sentences;
    }

    static Sentences ofGroup(int group) {
        Sentences sentences = new Sentences();
        sentences.take(group);
        return sentences;
    }

    private void take(int group) {
        switch (group) {
            case 0: HierarchySentences.tell(this); break;
            case 1: LearningSentences.tell(this); break;
            case 2: TextSentences.tell(this); break;
            case 3: UndoSentences.tell(this); break;
            case 4: SettingsSentences.tell(this); break;
            case 5: UpdatesSentences.tell(this); break;
            case 6: KnowledgeSentences.tell(this); break;
            case 7: FetchingSentences.tell(this); break;
            default: throw new IllegalArgumentException("no group " + group);
        }
    }

    List<Sentence> list() {
        return all;
    }

    void under(String title) {
        heading = title;
    }

    /** The words are a sentence below the heading, or a part of one. */
    Sentence says(String words, Consumer<Checks> test) {
        Sentence sentence = new Sentence(heading, words, test);
        all.add(sentence);
        return sentence;
    }

    /** These words ask nothing of the class. */
    void asksNothing(String words) {
        free.add(new Sentence(heading, words, checks -> { }));
    }

    /** Each sentence of the document has a test, and each test a sentence. */
    void compareWithDocument(Checks checks) throws IOException {
        Map<String, List<String>> document = Document.sentences();
        List<Sentence> told = new ArrayList<>(all);
        told.addAll(free);
        for (Sentence sentence : told) {
            List<String> texts = document.getOrDefault(sentence.heading, List.of());
            boolean found = texts.stream().anyMatch(text -> text.contains(sentence.words));
            checks.due("the document says: " + sentence, found ? 1 : 0, 1);
        }
        for (String title : document.keySet()) {
            for (String text : document.get(title)) {
                boolean tested = told.stream().anyMatch(s -> s.heading.equals(title) && text.contains(s.words));
                checks.due("has a test: " + title + ": " + text, tested || title.equals("Not promised") ? 1 : 0, 1);
            }
        }
    }
}
