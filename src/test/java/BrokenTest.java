import java.io.IOException;
import java.nio.file.Files;
import java.nio.file.Path;
import java.util.ArrayList;
import java.util.List;
import java.util.concurrent.ExecutionException;
import java.util.concurrent.ExecutorService;
import java.util.concurrent.Executors;
import java.util.concurrent.Future;
import java.util.regex.Matcher;
import java.util.regex.Pattern;

/** The test of each sentence fails, if the class is broken where it keeps to the sentence. */
public final class BrokenTest {
    private static final Path SOURCE = Path.of("src/main/java/ProxyVersions.java");
    private static final long LIMIT_IN_MILLISECONDS = 20_000;

    private final String source;
    private final Checks checks = new Checks();

    private BrokenTest() throws IOException {
        source = Files.readString(SOURCE);
    }

    public static void main(String[] args) throws Exception {
        new BrokenTest().breakAll();
        // a broken class may run on for ever
        System.exit(0);
    }

    private void breakAll() throws InterruptedException, ExecutionException {
        ExecutorService pool = Executors.newFixedThreadPool(Runtime.getRuntime().availableProcessors());
        List<Future<String>> results = new ArrayList<>();
        for (int group = 0; group < Sentences.GROUPS; group++) {
            int from = group;
            List<Sentences.Sentence> sentences = Sentences.ofGroup(group).list();
            OtherClass whole = new OtherClass("ProxyVersions", source);
            checks.due("wrong answers without a break, group " + group, wrongAnswers(whole, group, 0), 0);
            for (int number = 0; number < sentences.size(); number++) {
                int index = number;
                Sentences.Sentence sentence = sentences.get(number);
                checks.due("ways of breaking " + sentence, Math.min(sentence.breaks.size(), 1), 1);
                for (Sentences.Break broken : sentence.breaks) {
                    results.add(pool.submit(() -> tryBreak(sentence, broken, from, index)));
                }
            }
        }
        for (Future<String> result : results) {
            checks.due("a way of breaking the class", result.get(), "noticed");
        }
        System.out.println(results.size() + " ways of breaking the class");
        checks.end();
    }

    private String tryBreak(Sentences.Sentence sentence, Sentences.Break broken, int group, int number) {
        String told = sentence + ", where '" + broken.text() + "' gives way to '" + broken.other() + "': ";
        String other = breakSource(broken);
        if (other.isEmpty()) {
            return told + "the place or the text in it is not in the source, or twice";
        }
        OtherClass loaded = new OtherClass("ProxyVersions", other);
        if (!loaded.compiles()) {
            return told + "does not compile: " + loaded.complaint();
        }
        return wrongAnswers(loaded, group, number) != 0 ? "noticed" : told + "not noticed";
    }

    /** The broken source; it is empty, if the place or the text in it is not there, or is there twice. */
    private String breakSource(Sentences.Break broken) {
        int start = source.indexOf(broken.where());
        if (start < 0 || !broken.where().isEmpty() && source.indexOf(broken.where(), start + 1) >= 0) {
            return "";
        }
        int end = broken.where().isEmpty() ? source.length() : endOfMethod(start);
        String[] parts = broken.text().strip().split("\\s+");
        StringBuilder pattern = new StringBuilder();
        for (String part : parts) {
            pattern.append(pattern.isEmpty() ? "" : "\\s+").append(Pattern.quote(part));
        }
        Matcher matcher = Pattern.compile(pattern.toString()).matcher(source).region(start, end);
        if (!matcher.find()) {
            return "";
        }
        String other = source.substring(0, matcher.start()) + broken.other() + source.substring(matcher.end());
        return matcher.find() ? "" : other;
    }

    /** Where the first line after the start is a closing brace with the indentation of the line of the start. */
    private int endOfMethod(int start) {
        int line = source.lastIndexOf('\n', start) + 1;
        int first = line;
        while (source.charAt(first) == ' ') {
            first++;
        }
        int end = source.indexOf("\n" + source.substring(line, first) + "}\n", start);
        return end < 0 ? source.length() : end;
    }

    /** How many answers the test with this number in its group finds wrong; -1, if it has no end. */
    private static int wrongAnswers(OtherClass other, int group, int number) {
        int[] wrong = {-1};
        Thread thread = new Thread(() -> wrong[0] = other.wrongAnswers(group, number));
        thread.setDaemon(true);
        thread.start();
        try {
            thread.join(LIMIT_IN_MILLISECONDS);
        } catch (InterruptedException e) {
            Thread.currentThread().interrupt();
        }
        return wrong[0];
    }

    /** Called in a world with another ProxyVersions. */
    static int wrongAnswersHere(int group, int number) {
        Checks silent = new Checks(true);
        Sentences.ofGroup(group).list().get(number).test.accept(silent);
        return silent.wrong();
    }
}
