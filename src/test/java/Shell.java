import java.io.IOException;
import java.nio.charset.StandardCharsets;
import java.nio.file.Files;
import java.nio.file.Path;
import java.util.Comparator;
import java.util.List;
import java.util.stream.Collectors;
import java.util.stream.Stream;

/** Commands run in a directory, and directories to run them in. */
final class Shell {
  /** What a command printed and its exit code. */
  record Ran(String printed, int code) { }

  /** Runs the lines of a script, up to the first that fails. */
  static Ran run(Path directory, String script) throws Exception {
    Process process = new ProcessBuilder("sh", "-e", "-c", script)
        .directory(directory.toFile()).redirectErrorStream(true).start();
    String printed = new String(process.getInputStream().readAllBytes(), StandardCharsets.UTF_8);
    return new Ran(printed, process.waitFor());
  }

  static void copy(Path from, Path to) throws IOException {
    for (Path one : under(from)) {
      Path other = to.resolve(from.relativize(one).toString());
      Files.createDirectories(Files.isDirectory(one) ? other : other.getParent());
      if (!Files.isDirectory(one)) {
        Files.copy(one, other);
      }
    }
  }

  static void write(Path file, String text) throws IOException {
    Files.createDirectories(file.getParent());
    Files.writeString(file, text);
  }

  static void delete(Path directory) throws IOException {
    for (Path one : under(directory).stream().sorted(Comparator.reverseOrder()).collect(Collectors.toList())) {
      Files.delete(one);
    }
  }

  private static List<Path> under(Path directory) throws IOException {
    try (Stream<Path> all = Files.walk(directory)) {
      return all.collect(Collectors.toList());
    }
  }
}
