import java.io.IOException;
import java.nio.file.FileVisitOption;
import java.nio.file.Files;
import java.nio.file.Path;
import java.nio.file.StandardCopyOption;
import java.util.Comparator;
import java.util.List;
import java.util.stream.Stream;

/** A folder with a copy of the project's parts, in which commands run; gone when it is closed. */
final class Sandbox implements AutoCloseable {
    final Path root;
    final Path main;
    final Path shared;
    /** What the latest command printed. */
    String printed = "";

    Sandbox() throws IOException {
        root = Files.createTempDirectory("hay");
        main = Files.createDirectories(root.resolve("main"));
        shared = Files.createDirectories(root.resolve("shared/tests"));
    }

    /** A file, or a folder with all that is in it, to the same place in the copy. */
    void copy(String name) throws IOException {
        try (Stream<Path> all = Files.walk(Path.of(name), FileVisitOption.FOLLOW_LINKS)) {
            for (Path from : (Iterable<Path>) all::iterator) {
                Path to = main.resolve(from.toString());
                if (Files.isDirectory(from)) {
                    Files.createDirectories(to);
                } else {
                    Files.createDirectories(to.getParent());
                    Files.copy(from, to, StandardCopyOption.COPY_ATTRIBUTES);
                }
            }
        }
    }

    void write(Path file, String text) throws IOException {
        Files.createDirectories(file.getParent());
        Files.writeString(file, text);
    }

    /** Runs a command of the shell in a folder: its exit code. */
    int run(Path folder, String command) throws IOException, InterruptedException {
        Process process = new ProcessBuilder(List.of("bash", "-c", command))
            .directory(folder.toFile()).redirectErrorStream(true).start();
        process.getOutputStream().close();
        printed = new String(process.getInputStream().readAllBytes());
        return process.waitFor();
    }

    @Override
    public void close() throws IOException {
        try (Stream<Path> all = Files.walk(root)) {
            for (Path path : (Iterable<Path>) all.sorted(Comparator.reverseOrder())::iterator) {
                Files.delete(path);
            }
        }
    }
}
