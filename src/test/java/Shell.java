import java.io.IOException;
import java.nio.charset.StandardCharsets;
import java.nio.file.Files;
import java.nio.file.Path;
import java.util.Comparator;
import java.util.List;
import java.util.stream.Stream;

/** Runs commands in a place of their own, which is swept away after them. */
final class Shell implements AutoCloseable {
    record Outcome(int exitCode, String output) {
        String lastLine() {
            String[] lines = output.split("\n");
            return lines[lines.length - 1];
        }
    }

    private final Path place;

    Shell() throws IOException {
        place = Files.createTempDirectory("proxies");
    }

    Path place() {
        return place;
    }

    /** Stops at the first command that fails. What the commands leave as temporary goes with the place. */
    Outcome run(Path directory, String commands) throws IOException, InterruptedException {
        ProcessBuilder builder = new ProcessBuilder(List.of("sh", "-e", "-u", "-c", commands));
        builder.directory(directory.toFile());
        builder.environment().put("TMPDIR", place.toString());
        builder.redirectErrorStream(true);
        Process process = builder.start();
        process.getOutputStream().close();
        String output = new String(process.getInputStream().readAllBytes(), StandardCharsets.UTF_8);
        return new Outcome(process.waitFor(), output);
    }

    @Override
    public void close() throws IOException {
        List<Path> all;
        try (Stream<Path> walk = Files.walk(place)) {
            all = walk.sorted(Comparator.reverseOrder()).toList();
        }
        for (Path each : all) {
            Files.delete(each);
        }
    }
}
