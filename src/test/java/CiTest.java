import java.io.IOException;
import java.nio.file.Files;
import java.nio.file.Path;
import java.util.ArrayList;
import java.util.LinkedHashMap;
import java.util.List;
import java.util.Map;
import java.util.concurrent.ExecutionException;
import java.util.concurrent.ExecutorService;
import java.util.concurrent.Executors;
import java.util.concurrent.Future;

/** .ci/run passes a project of which all is well, and fails one of which something is not. */
public final class CiTest {
    private static final Path SCRIPT = Path.of(".ci/run");
    private static final String CLASS = "main/src/main/java/ProxyVersions.java";
    private static final String OWN = "main/src/test/java/OwnTest.java";
    private static final String OTHER = "main/src/test/java/OtherTest.java";
    private static final String SHARED = "shared/tests/SharedRuns.java";

    private final Checks checks = new Checks();
    private final ExecutorService pool = Executors.newFixedThreadPool(4);
    private final List<Runnable> results = new ArrayList<>();

    public static void main(String[] args) throws Exception {
        new CiTest().runAll();
    }

    private void runAll() {
        due("all is well", Map.of(), 0, "3 passed, 0 failed");
        due("a test of the project fails", Map.of(OWN, failing("OwnTest")), 1, "2 passed, 1 failed");
        due("a shared test fails", Map.of(SHARED, failing("SharedRuns")), 1, "2 passed, 1 failed");
        due("a test throws", Map.of(OTHER, program("OtherTest", "int[] none = {}; none[0]++;")), 1,
                "2 passed, 1 failed");
        due("a test of the project does not compile", Map.of(OWN, "class OwnTest { none }"), 1, "1 passed, 1 failed");
        due("a shared test does not compile", Map.of(SHARED, "class SharedRuns { none }"), 1, "2 passed, 1 failed");
        due("there is no shared test", Map.of(SHARED, ""), 1, "2 passed, 1 failed");
        due("there is no test of the project", Map.of(OWN, "", OTHER, ""), 1, "1 passed, 1 failed");
        due("the class compiles with a warning", Map.of(CLASS,
                "public final class ProxyVersions { java.util.List list; }"), 1, "3 passed, 1 failed");
        due("the class does not compile", Map.of(CLASS, "class ProxyVersions { none }"), 1, "0 passed, 3 failed");
        results.forEach(Runnable::run);
        pool.shutdown();
        checks.end();
    }

    private static String program(String name, String body) {
        return "public class " + name + " { public static void main(String[] args) { new ProxyVersions(); " + body
                + " } }";
    }

    private static String failing(String name) {
        return program(name, "System.exit(1);");
    }

    /** Starts .ci/run on a small project with these texts instead of the usual ones; an empty one is left out. */
    private void due(String what, Map<String, String> changes, int exitCode, String lastLine) {
        Map<String, String> files = new LinkedHashMap<>();
        files.put(CLASS, "public final class ProxyVersions { }");
        files.put(OWN, program("OwnTest", ""));
        files.put(OTHER, program("OtherTest", ""));
        files.put(SHARED, program("SharedRuns", ""));
        files.putAll(changes);
        Future<Shell.Outcome> future = pool.submit(() -> runOn(files));
        results.add(() -> compare(what, future, exitCode, lastLine));
    }

    private void compare(String what, Future<Shell.Outcome> future, int exitCode, String lastLine) {
        try {
            checks.due(".ci/run, if " + what + ", exit code", future.get().exitCode(), exitCode);
            checks.due(".ci/run, if " + what + ", last line", future.get().lastLine(), lastLine);
        } catch (InterruptedException | ExecutionException e) {
            checks.due(".ci/run, if " + what, e.toString(), "");
        }
    }

    private static Shell.Outcome runOn(Map<String, String> files) throws IOException, InterruptedException {
        try (Shell shell = new Shell()) {
            for (String name : files.keySet()) {
                Path file = shell.place().resolve(name);
                Files.createDirectories(file.getParent());
                if (!files.get(name).isEmpty()) {
                    Files.writeString(file, files.get(name));
                }
            }
            Path script = shell.place().resolve("main").resolve(SCRIPT);
            Files.createDirectories(script.getParent());
            Files.copy(SCRIPT, script);
            return shell.run(shell.place(), "main/.ci/run");
        }
    }
}
