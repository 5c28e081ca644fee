import java.io.IOException;
import java.io.UncheckedIOException;
import java.nio.charset.StandardCharsets;
import java.nio.file.Files;
import java.nio.file.Path;
import java.util.Comparator;
import java.util.List;
import java.util.stream.Collectors;
import java.util.stream.Stream;

/** A copy of the project with ../shared beside it, for commands that may write there; removed at the end. */
final class Checkout {
    private static final String MAIN = "src/main/java/FaceRounds.java";
    private static final String TESTS = "src/test/java";

    private final Path all;
    private String printed = "";

    /** With the README, .ci/run, the class, the helpers of the tests, and these tests of the project alone. */
    Checkout(List<String> tests) {
        try {
            all = Files.createTempDirectory("FaceRounds");
            copy(Path.of("README.md"), project("README.md"));
            copy(Path.of(".ci/run"), project(".ci/run"));
            copy(Path.of(MAIN), project(MAIN));
            for (Path file : filesIn(Path.of(TESTS))) {
                String name = file.getFileName().toString();
                if (!name.endsWith("Test.java") || tests.contains(name)) {
                    copy(file, project(TESTS + "/" + name));
                }
            }
            for (Path file : filesIn(Path.of("../shared/tests"))) {
                copy(file, project("../shared/tests/" + file.getFileName()));
            }
        } catch (IOException e) {
            throw new UncheckedIOException(e);
        }
    }

    static List<Path> filesIn(Path directory) throws IOException {
        try (Stream<Path> files = Files.list(directory)) {
            return files.sorted().collect(Collectors.toList());
        }
    }

    private Path project(String name) {
        return all.resolve("project").resolve(name).normalize();
    }

    private static void copy(Path from, Path to) throws IOException {
        Files.createDirectories(to.getParent());
        Files.copy(from, to);
    }

    void write(String name, String text) {
        try {
            Files.createDirectories(project(name).getParent());
            Files.deleteIfExists(project(name));
            Files.writeString(project(name), text);
        } catch (IOException e) {
            throw new UncheckedIOException(e);
        }
    }

    /** Takes one file away, or all that a directory has. */
    void remove(String name) {
        try (Stream<Path> files = Files.walk(project(name))) {
            for (Path file : files.sorted(Comparator.reverseOrder()).collect(Collectors.toList())) {
                Files.delete(file);
            }
        } catch (IOException e) {
            throw new UncheckedIOException(e);
        }
    }

    /** Runs commands of a shell in the project's directory, up to the first that fails; tells the exit code. */
    int run(String commands) {
        try {
            Process shell = new ProcessBuilder("sh", "-e", "-c", commands)
                .directory(project("").toFile()).redirectErrorStream(true).start();
            shell.getOutputStream().close();
            printed = new String(shell.getInputStream().readAllBytes(), StandardCharsets.UTF_8);
            return shell.waitFor();
        } catch (IOException e) {
            throw new UncheckedIOException(e);
        } catch (InterruptedException e) {
            throw new IllegalStateException(e);
        }
    }

    /** What the last commands printed. */
    String printed() {
        return printed;
    }

    void removeAll() {
        remove("..");
    }
}
