import java.io.File;
import java.io.IOException;
import java.io.UncheckedIOException;
import java.nio.charset.StandardCharsets;
import java.nio.file.Files;
import java.nio.file.Path;
import java.util.Comparator;
import java.util.List;
import java.util.stream.Stream;

/** A command that has been run in a folder: its exit code, and what it printed. */
final class Shell {
    final int exit;
    final String printed;

    private Shell(int exit, String printed) {
        this.exit = exit;
        this.printed = printed;
    }

    static Shell run(Path folder, String command) throws IOException, InterruptedException {
        Process process = new ProcessBuilder("sh", "-c", command).directory(folder.toFile())
            .redirectInput(new File("/dev/null")).redirectErrorStream(true).start();
        String printed = new String(process.getInputStream().readAllBytes(), StandardCharsets.UTF_8);
        return new Shell(process.waitFor(), printed);
    }

    int timesPrinted(String line) {
        return (int) printed.lines().filter(line::equals).count();
    }

    /** A new folder for a test, which is gone when the test ends. */
    static Path newFolder() throws IOException {
        Path folder = Files.createTempDirectory("WhenCanAllSix");
        Runtime.getRuntime().addShutdownHook(new Thread(() -> remove(folder)));
        return folder;
    }

    private static void remove(Path folder) {
        for (Path path : under(folder).stream().sorted(Comparator.reverseOrder()).toList()) {
            path.toFile().delete();
        }
    }

    /** All folders and files under this one, and itself. */
    static List<Path> under(Path folder) {
        try (Stream<Path> paths = Files.walk(folder)) {
            return paths.sorted().toList();
        } catch (IOException unread) {
            throw new UncheckedIOException(unread);
        }
    }
}
