import java.nio.file.Files;
import java.nio.file.Path;
import java.util.ArrayList;
import java.util.List;
import java.util.Set;
import java.util.TreeSet;
import java.util.regex.Matcher;
import java.util.regex.Pattern;
import java.util.stream.Collectors;
import java.util.stream.Stream;

/** What README.md tells: its Java lines with their answers, its commands, the names of calls, classes and tests. */
public final class ReadmeTest {
  private static final Check check = new Check();
  private static final Pattern ANSWERED = Pattern.compile("(?:(int|long) (\\w+) = )?(\\w+\\.\\w+\\(.*\\)); *// (-?\\d+)(:.*)?");

  public static void main(String[] args) throws Exception {
    String readme = Files.readString(Path.of("README.md"));
    Path room = Files.createTempDirectory("readme");
    try {
      uses(blocks(readme, "java"), room.resolve("use"));
      runs(blocks(readme, "sh"), room);
      calls(readme);
      classes(readme);
      tests(readme);
    } finally {
      Shell.delete(room);
    }
    check.end("ReadmeTest");
  }

  private static List<String> blocks(String readme, String language) {
    return Pattern.compile("(?ms)^```" + language + "\\n(.*?)^```$").matcher(readme).results()
        .map(block -> block.group(1)).collect(Collectors.toList());
  }

  private static void isTrue(String what, boolean holds) {
    check.due("README.md: " + what, holds ? 1 : 0, 1);
  }

  // ---- the Java lines, as one program

  private static void uses(List<String> blocks, Path room) throws Exception {
    StringBuilder methods = new StringBuilder();
    StringBuilder body = new StringBuilder();
    int answers = 0;
    for (String block : blocks) {
      if (block.startsWith("static ")) {
        methods.append(block);
        continue;
      }
      for (String line : block.split("\n")) {
        Matcher answered = ANSWERED.matcher(line);
        answers += answered.matches() ? 1 : 0;
        body.append(answered.matches() ? asked(answered) : line).append('\n');
        isTrue("a call and what it answers: " + line, answered.matches() || !line.contains("//"));
      }
    }
    isTrue("it shows calls and what they answer", answers > 20);
    Shell.write(room.resolve("Use.java"), "final class Use {\n" + methods
        + "private static int wrong;\n"
        + "private static void due(String call, long got, long want) {\n"
        + "if (got != want) { wrong++; System.out.println(call + \" answered \" + got + \", due is \" + want); } }\n"
        + "public static void main(String[] args) {\n" + body + "System.exit(wrong);\n}\n}\n");
    String source = Path.of("src", "main", "java", "TwoCamps.java").toAbsolutePath().toString();
    Shell.Ran ran = Shell.run(room, "javac -d out '" + source + "' Use.java\njava -cp out Use");
    isTrue("its Java lines\n" + ran.printed(), ran.code() == 0);
  }

  private static String asked(Matcher line) {
    String call = line.group(3);
    boolean isKept = line.group(2) != null;
    return (isKept ? line.group(1) + " " + line.group(2) + " = " + call + "; " : "")
        + "due(\"" + call.replace("\"", "\\\"") + "\", " + (isKept ? line.group(2) : call) + ", " + line.group(4) + "L);";
  }

  // ---- the commands, in a copy of this checkout

  private static void runs(List<String> blocks, Path room) throws Exception {
    Path checkout = room.resolve("main");
    Shell.copy(Path.of("src"), checkout.resolve("src"));
    Files.copy(Path.of("README.md"), checkout.resolve("README.md"));
    Files.createSymbolicLink(room.resolve("shared"), Path.of("..", "shared").toRealPath());
    boolean hasAll = false;
    for (String block : blocks) {
      // this one runs this test: CiTest looks at it
      if (block.equals(".ci/run\n")) {
        hasAll = true;
        isTrue(".ci/run can be run", Files.isExecutable(Path.of(".ci", "run")));
        continue;
      }
      Shell.Ran ran = Shell.run(checkout, block);
      isTrue("the commands\n" + block + ran.printed(), ran.code() == 0);
      Matcher test = Pattern.compile("java -cp out (\\w+Test)( \\d+)?").matcher(block);
      while (test.find()) {
        String due = test.group(1) + ":" + (test.group(2) == null ? " \\d+" : test.group(2)) + " .* 0 not as due";
        isTrue(test.group() + " prints how it went", Pattern.compile("(?m)^" + due + "$").matcher(ran.printed()).find());
      }
    }
    isTrue("it tells of .ci/run", hasAll);
  }

  // ---- the names

  private static Set<String> named(String readme, String pattern) {
    return Pattern.compile(pattern).matcher(readme).results().map(name -> name.group(1)).collect(Collectors.toCollection(TreeSet::new));
  }

  private static void calls(String readme) {
    Set<String> due = new TreeSet<>();
    for (java.lang.reflect.Method method : TwoCamps.class.getMethods()) {
      if (method.getDeclaringClass() == TwoCamps.class) {
        due.add(method.getName());
      }
    }
    String table = tableOf(readme, "| calls | for |");
    isTrue("the calls are " + due, named(table, "`(\\w+)`").equals(due));
  }

  private static void classes(String readme) {
    Set<String> due = new TreeSet<>();
    for (Class<?> inside : TwoCamps.class.getDeclaredClasses()) {
      due.add(inside.getSimpleName());
    }
    String table = tableOf(readme, "| class | what it knows |");
    isTrue("the classes are " + due, named(table, "`([A-Z]\\w+)`").equals(due));
  }

  private static String tableOf(String readme, String head) {
    List<String> rows = new ArrayList<>();
    int from = readme.indexOf(head);
    isTrue("it has the table " + head, from >= 0);
    for (String line : readme.substring(Math.max(from, 0)).split("\n")) {
      if (!line.startsWith("|")) {
        break;
      }
      rows.add(line);
    }
    return String.join("\n", rows);
  }

  private static void tests(String readme) throws Exception {
    Set<String> due;
    try (Stream<Path> files = Files.list(Path.of("src", "test", "java"))) {
      due = files.map(file -> file.getFileName().toString()).filter(name -> name.endsWith("Test.java"))
          .map(name -> name.replace(".java", "")).collect(Collectors.toCollection(TreeSet::new));
    }
    isTrue("the tests are " + due, named(readme, "`([A-Z]\\w*Test)`").equals(due));
  }
}
