import java.lang.reflect.Field;
import java.lang.reflect.Method;
import java.lang.reflect.Modifier;
import java.nio.charset.StandardCharsets;
import java.nio.file.Files;
import java.nio.file.Path;
import java.util.ArrayList;
import java.util.Arrays;
import java.util.Collections;
import java.util.List;
import java.util.regex.Matcher;
import java.util.regex.Pattern;

/** The face of the class, and those rules of LANGUAGE.md that its text can be asked about. */
public final class LanguageTest {
  private static final Check check = new Check();
  private static final Path SOURCE = Path.of("src", "main", "java", "TwoCamps.java");

  public static void main(String[] args) throws Exception {
    face();
    insideClasses();
    String text = Files.readString(SOURCE, StandardCharsets.US_ASCII);
    String bare = bare(text);
    words(bare);
    methods(bare);
    loops(bare);
    check.end("LanguageTest");
  }

  private static void none(String what, Pattern pattern, String text) {
    Matcher found = pattern.matcher(text);
    check.due(what + (found.find() ? ": " + found.group() : ""), found.reset().find() ? 1 : 0, 0);
  }

  private static void face() throws Exception {
    String doc = Files.readString(Path.of("..", "shared", "DOC.md"), StandardCharsets.UTF_8);
    Matcher calls = Pattern.compile("    public (int|long) ([a-z]+)\\(([^)]*)\\);").matcher(doc);
    List<String> due = new ArrayList<>();
    while (calls.find()) {
      due.add(calls.group(1) + " " + calls.group(2) + "(" + calls.group(3).replaceAll(" [a-z]+(?=,|$)", "").replace(" ", "") + ")");
    }
    List<String> got = new ArrayList<>();
    for (Method method : TwoCamps.class.getDeclaredMethods()) {
      if (Modifier.isPrivate(method.getModifiers()) || method.isSynthetic()) {
        check.due("rule 1: a private " + method.getName(), due.toString().contains(" " + method.getName() + "(") ? 1 : 0, 0);
        continue;
      }
      List<String> types = new ArrayList<>();
      for (Class<?> type : method.getParameterTypes()) {
        types.add(type.getName());
      }
      got.add(method.getReturnType() + " " + method.getName() + "(" + String.join(",", types) + ")");
      check.due("rule 1: public and no more, " + method, method.getModifiers(), Modifier.PUBLIC);
    }
    Collections.sort(due);
    Collections.sort(got);
    check.due("the document has 37 calls", due.size(), 37);
    check.due("rule 1: the face is " + due + ", it was " + got, due.equals(got) ? 1 : 0, 1);
    check.due("rule 1: one constructor", TwoCamps.class.getDeclaredConstructors().length, 1);
    check.due("rule 1: it is public", TwoCamps.class.getDeclaredConstructor().getModifiers(), Modifier.PUBLIC);
    check.due("rule 1: public final", TwoCamps.class.getModifiers(), Modifier.PUBLIC | Modifier.FINAL);
    constants();
  }

  private static void constants() {
    check.due("NONE", TwoCamps.NONE, -1);
    check.due("BAD", TwoCamps.BAD, -2);
    check.due("STATE", TwoCamps.STATE, -3);
    check.due("FULL", TwoCamps.FULL, -4);
    check.due("NO", TwoCamps.NO, -4611686018427387904L);
    List<String> open = new ArrayList<>();
    for (Field field : TwoCamps.class.getDeclaredFields()) {
      if (!Modifier.isPrivate(field.getModifiers())) {
        open.add(field.getType() + " " + field.getName());
      }
    }
    check.due("rule 1: constants, " + open, open.equals(List.of("int NONE", "int BAD", "int STATE", "int FULL", "long NO")) ? 1 : 0, 1);
  }

  private static void insideClasses() {
    Class<?>[] inside = TwoCamps.class.getDeclaredClasses();
    check.due("rule 11: some twelve classes", inside.length <= 11 ? 0 : inside.length, 0);
    for (Class<?> one : inside) {
      check.due("rule 2: static, " + one, Modifier.isStatic(one.getModifiers()) ? 1 : 0, 1);
      check.due("rule 1: not open, " + one, one.getModifiers() & (Modifier.PUBLIC | Modifier.PROTECTED), 0);
    }
    List<Class<?>> all = new ArrayList<>(Arrays.asList(inside));
    all.add(TwoCamps.class);
    for (Class<?> one : all) {
      int fields = 0;
      for (Field field : one.getDeclaredFields()) {
        boolean isStatic = Modifier.isStatic(field.getModifiers());
        check.due("rule 5: a static field is final, " + field, isStatic && !Modifier.isFinal(field.getModifiers()) ? 1 : 0, 0);
        fields += isStatic ? 0 : 1;
      }
      check.due("rule 11: some twenty fields, " + one, fields <= 20 ? 0 : fields, 0);
      for (Method method : one.getDeclaredMethods()) {
        check.due("rule 11: seven parameters, " + method, method.getParameterCount() <= 7 ? 0 : 1, 0);
        check.due("rule 6: no method of Object, " + method, List.of("equals", "hashCode", "toString").contains(method.getName()) ? 1 : 0, 0);
      }
    }
  }

  /** The text without comments and without what stands between quotes. */
  private static String bare(String text) {
    return Pattern.compile("//[^\\n]*|/\\*.*?\\*/|\"[^\"]*\"|'[^']*'", Pattern.DOTALL).matcher(text)
        .replaceAll(found -> found.group().startsWith("/") ? " " : "0");
  }

  private static void words(String bare) {
    none("rule 6", Pattern.compile("\\b(throw|throws|try|catch|finally|synchronized|assert|instanceof)\\b"), bare);
    none("rule 2", Pattern.compile("->|::|\\bnew \\w+(<\\w*>)?\\([^()]*\\) *\\{"), bare);
    none("rule 3", Pattern.compile("\\b(Object|Map|HashMap|Set|var|Long|Stream|Optional)\\b"), bare.replace("Long.", ""));
    none("rule 4", Pattern.compile("\\b\\w+Exact\\b|String\\.format|\\bSystem\\.(?!arraycopy)\\w+"), bare);
    none("rule 5", Pattern.compile("\\bstatic\\s*\\{"), bare);
    none("rule 13", Pattern.compile("\\b(Random|Thread|System\\.(nanoTime|currentTimeMillis|getenv))\\b"), bare);
    none("no package line", Pattern.compile("(?m)^package\\b"), bare);
    Matcher imports = Pattern.compile("(?m)^import ([\\w.*]+);").matcher(bare);
    while (imports.find()) {
      check.due("rule 4: import " + imports.group(1), imports.group(1).equals("java.util.Arrays") ? 1 : 0, 1);
    }
  }

  private static void methods(String bare) {
    Methods methods = new Methods(bare);
    int heads = (int) Pattern.compile("(?m)^ *(public|private|static|final|\\w+)[^=;\\n]*\\) \\{$").matcher(bare).results()
        .filter(head -> !head.group().matches(" *(if|for|switch|while|else|return)\\b.*")).count();
    check.due("each method's head was found", methods.all.size(), heads);
    for (Methods.Method method : methods.all) {
      check.due("rule 11: some sixty lines, " + method, method.lines <= 60 ? 0 : method.lines, 0);
      check.due("rule 11: eight deep, " + method, method.depth() <= 8 ? 0 : method.depth(), 0);
      check.due("rule 12, README.md: only a constructor makes objects, " + method,
          !method.isConstructor && method.body.matches("(?s).*\\bnew\\b.*") ? 1 : 0, 0);
      recursion(method);
    }
    String[] lines = bare.split("\n");
    for (int i = 0; i < lines.length; i++) {
      String indent = lines[i].replaceAll("\\S.*", "");
      check.due("line " + (i + 1) + " is not too long", lines[i].length() <= 120 && indent.length() <= 32 ? 0 : 1, 0);
    }
  }

  private static void recursion(Methods.Method method) {
    for (Methods.Method other : method.cycle()) {
      check.due("rule 8: recursion of a method that is not private, " + other, other.modifiers.contains("private") ? 0 : 1, 0);
    }
    if (method.cycle().size() == 1) {
      check.due("rule 8: a method that calls itself alone is static, " + method, method.modifiers.contains("static") ? 0 : 1, 0);
    }
  }

  /** A loop's bound stands in its head: no while, no for without a condition. */
  private static void loops(String bare) {
    none("rule 9", Pattern.compile("\\b(while|do)\\b"), bare);
    Matcher heads = Pattern.compile("\\bfor \\(([^;{]*);([^;{]*);").matcher(bare);
    while (heads.find()) {
      check.due("rule 9: for (" + heads.group(1) + ";" + heads.group(2) + ";", heads.group(2).matches(".*[<>].*") ? 0 : 1, 0);
    }
  }
}
