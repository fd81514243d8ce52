import java.io.IOException;
import java.nio.file.Files;
import java.nio.file.Path;
import java.util.ArrayList;
import java.util.List;
import java.util.TreeSet;
import java.util.regex.MatchResult;
import java.util.regex.Matcher;
import java.util.regex.Pattern;
import java.util.stream.Stream;

/** What README.md says is so: its examples answer what it tells, its commands run, its lists are whole. */
public final class ReadmeTest {
    private static final Checks CHECKS = new Checks();
    private static final Path TESTS = Path.of("src/test/java");
    /** The comment begins with the answer: 1 the variable that takes it, if there is one, 2 the call, 3 the answer. */
    private static final Pattern TOLD =
            Pattern.compile("(?m)^(?:int (\\w+) = )?(\\S.*?);\\s+// (-?\\d+|[A-Z_]{2,})\\b.*$");

    public static void main(String[] args) throws Exception {
        String page = Files.readString(Path.of("README.md"));
        String document = Files.readString(Path.of("../shared/DOC.md"));
        for (String example : blocks(page, "java")) {
            tryExample(example);
        }
        for (String commands : blocks(page, "sh")) {
            tryCommands(commands);
        }
        listOfCalls(page, document);
        constants(page);
        listOfTests(page);
        places(page);
        CHECKS.end();
    }

    private static List<String> blocks(String page, String language) {
        List<String> blocks = new ArrayList<>();
        for (MatchResult match : matches("(?s)```" + language + "\n(.*?)```", page)) {
            blocks.add(match.group(1));
        }
        CHECKS.due("blocks of " + language + ", at least three", blocks.size() >= 3 ? 1 : 0, 1);
        return blocks;
    }

    private static List<MatchResult> matches(String pattern, String text) {
        return Pattern.compile(pattern).matcher(text).results().toList();
    }

    private static void tryExample(String example) throws ReflectiveOperationException {
        List<String> calls = new ArrayList<>();
        List<Integer> due = new ArrayList<>();
        StringBuilder body = new StringBuilder();
        for (String line : example.split("\n")) {
            Matcher told = TOLD.matcher(line);
            if (!told.matches()) {
                CHECKS.due("a comment that tells no answer: " + line, line.contains("//") ? 1 : 0, 0);
                body.append(line).append('\n');
                continue;
            }
            calls.add(told.group(2));
            due.add(valueOf(told.group(3)));
            String name = told.group(1) == null ? "answer" + calls.size() : told.group(1);
            body.append("int ").append(name).append(" = ").append(told.group(2)).append(";\n");
            body.append("answers.add(").append(name).append(");\n");
        }
        OtherClass compiled = new OtherClass("Example", "final class Example { static java.util.List<Integer> run() {\n"
                + "java.util.List<Integer> answers = new java.util.ArrayList<>();\n" + body + "return answers; } }");
        CHECKS.due("complaints about an example", compiled.complaint(), "[]");
        List<?> got = compiled.compiles() ? (List<?>) compiled.answer("Example", "run") : List.of();
        CHECKS.due("answers of an example", got.size(), due.size());
        for (int index = 0; index < got.size(); index++) {
            CHECKS.due("in an example " + calls.get(index), (Integer) got.get(index), due.get(index));
        }
    }

    private static int valueOf(String told) throws ReflectiveOperationException {
        boolean isNumber = told.matches("-?\\d+");
        return isNumber ? Integer.parseInt(told) : ProxyVersions.class.getField(told).getInt(null);
    }

    private static void tryCommands(String commands) throws IOException, InterruptedException {
        if (commands.contains(".ci/run")) {
            // it runs this very test; CiTest looks at it
            CHECKS.due(".ci/run can be run", Files.isExecutable(Path.of(".ci/run")) ? 1 : 0, 1);
            return;
        }
        try (Shell shell = new Shell()) {
            Shell.Outcome outcome = shell.run(Path.of("").toAbsolutePath(), commands);
            CHECKS.due("exit code of\n" + commands + outcome.output(), outcome.exitCode(), 0);
        }
    }

    /** Each method of the face has its row, which tells by a star whether it saves a state. */
    private static void listOfCalls(String page, String document) {
        TreeSet<String> saving = new TreeSet<>();
        for (MatchResult list : matches("Every successful call of (.*?) saves", document)) {
            for (MatchResult name : matches("(\\w+)\\(\\)", list.group(1))) {
                saving.add(name.group(1));
            }
        }
        CHECKS.due("calls that save a state", saving.size(), 9);
        TreeSet<String> due = new TreeSet<>();
        for (MatchResult method : matches("(?m)^    public int (\\w+)(\\(.*\\));", document)) {
            String parameters = method.group(2).replace("int ", "");
            due.add("`" + method.group(1) + parameters + "`" + (saving.contains(method.group(1)) ? " *" : ""));
        }
        TreeSet<String> got = new TreeSet<>();
        for (MatchResult row : matches("(?m)^\\| (`\\w+\\(.*?\\)`(?: \\*)?) \\|", page)) {
            got.add(row.group(1));
        }
        CHECKS.due("the calls", String.join("\n", got), String.join("\n", due));
        CHECKS.due("how many calls", got.size(), 24);
    }

    private static void constants(String page) throws ReflectiveOperationException {
        TreeSet<String> told = new TreeSet<>();
        for (MatchResult constant : matches("`([A-Z_]+)` \\((-\\d+)\\)", page)) {
            CHECKS.due(constant.group(1), Integer.parseInt(constant.group(2)), valueOf(constant.group(1)));
            told.add(constant.group(1));
        }
        CHECKS.due("how many constants", told.size(), 4);
    }

    private static void listOfTests(String page) throws IOException {
        TreeSet<String> due = new TreeSet<>();
        try (Stream<Path> files = Files.list(TESTS)) {
            files.map(file -> file.getFileName().toString()).filter(name -> name.endsWith("Test.java"))
                    .forEach(name -> due.add(name.replace(".java", "")));
        }
        TreeSet<String> got = new TreeSet<>();
        for (MatchResult row : matches("(?m)^\\| (`\\w+Test`.*?) \\|", page)) {
            for (MatchResult name : matches("`(\\w+)`", row.group(1))) {
                got.add(name.group(1));
            }
        }
        CHECKS.due("the tests", String.join("\n", got), String.join("\n", due));
    }

    /** Each file that is named is there; a star stands for any part of a name. */
    private static void places(String page) throws IOException {
        int named = 0;
        for (MatchResult place : matches("`([\\w./*]*[/.][\\w./*]+)`", page)) {
            Path path = Path.of(place.group(1).replace("*", ""));
            Path directory = path.getParent() == null ? Path.of("") : path.getParent();
            String pattern = place.group(1).substring(place.group(1).lastIndexOf('/') + 1);
            boolean found;
            try (Stream<Path> files = Files.list(directory)) {
                String regex = Pattern.quote(pattern).replace("*", "\\E.*\\Q");
                found = files.anyMatch(file -> file.getFileName().toString().matches(regex));
            }
            CHECKS.due(place.group(1) + " is there", found ? 1 : 0, 1);
            named++;
        }
        CHECKS.due("places were named", named >= 8 ? 1 : 0, 1);
    }
}
