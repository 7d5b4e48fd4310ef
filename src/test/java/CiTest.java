import java.nio.file.Files;
import java.nio.file.Path;
import java.nio.file.StandardCopyOption;

/** .ci/run on small checkouts: it passes when all do, and fails when one thing is broken. */
public final class CiTest {
  private static final Check check = new Check();
  private static final String CLASS = "public final class TwoCamps { }\n";
  private static final String GOOD = "public final class NAME { public static void main(String[] args) { new TwoCamps(); } }\n";
  private static final String WRONG = GOOD.replace("new TwoCamps();", "new TwoCamps(); System.exit(1);");
  private static final String THROWS = GOOD.replace("new TwoCamps();", "new TwoCamps(); throw new IllegalStateException();");
  private static final String UNREAD = GOOD.replace("new TwoCamps();", "no Java");
  private static final String RAW = "final class Raw { java.util.List<String> list = new java.util.ArrayList(); }\n";

  private CiTest() {
  }

  public static void main(String[] args) throws Exception {
    Path room = Files.createTempDirectory("ci");
    try {
      ask(room.resolve("1"), "all is well", CLASS, GOOD, GOOD, 0, "3 passed, 0 failed");
      ask(room.resolve("2"), "a test of the project is wrong", CLASS, WRONG, GOOD, 1, "2 passed, 1 failed");
      ask(room.resolve("3"), "a test of the project throws", CLASS, THROWS, GOOD, 1, "2 passed, 1 failed");
      ask(room.resolve("4"), "a test of the project is no Java", CLASS, UNREAD, GOOD, 1, "");
      ask(room.resolve("5"), "a shared test is wrong", CLASS, GOOD, WRONG, 1, "2 passed, 1 failed");
      ask(room.resolve("6"), "a shared test is no Java", CLASS, GOOD, UNREAD, 1, "2 passed, 1 failed");
      ask(room.resolve("7"), "there is no shared test", CLASS, GOOD, "", 1, "2 passed, 1 failed");
      ask(room.resolve("8"), "the class is no Java", "public final class TwoCamps {\n", GOOD, GOOD, 1, "");
      ask(room.resolve("9"), "the class has a warning", CLASS + RAW, GOOD, GOOD, 1, "");
    } finally {
      Shell.delete(room);
    }
    check.end("CiTest");
  }

  /** A checkout with two tests, of which one may be wrong, and with a shared one, or none (empty). */
  private static void ask(Path room, String what, String source, String test, String shared, int code, String last)
      throws Exception {
    Path main = room.resolve("main");
    Shell.write(main.resolve("src/main/java/TwoCamps.java"), source);
    Shell.write(main.resolve("src/test/java/FirstTest.java"), test.replace("NAME", "FirstTest"));
    Shell.write(main.resolve("src/test/java/SecondTest.java"), GOOD.replace("NAME", "SecondTest"));
    Files.createDirectories(room.resolve("shared/tests"));
    if (!shared.isEmpty()) {
      Shell.write(room.resolve("shared/tests/Shared.java"), shared.replace("NAME", "Shared"));
    }
    Files.createDirectories(main.resolve(".ci"));
    Files.copy(Path.of(".ci", "run"), main.resolve(".ci/run"), StandardCopyOption.COPY_ATTRIBUTES);
    // from elsewhere: it finds its own way
    Shell.Ran ran = Shell.run(room, "sh main/.ci/run");
    check.due(".ci/run, " + what + ": exit code", ran.code(), code);
    check.due(".ci/run, " + what + ", ends with \"" + last + "\"\n" + ran.printed(),
        ran.printed().endsWith(last.isEmpty() ? "\n" : "\n" + last + "\n") ? 1 : 0, 1);
  }
}
