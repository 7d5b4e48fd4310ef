import java.io.IOException;
import java.nio.charset.StandardCharsets;
import java.nio.file.Files;
import java.nio.file.Path;
import java.util.ArrayList;
import java.util.Arrays;
import java.util.LinkedHashMap;
import java.util.List;
import java.util.Map;
import java.util.regex.Matcher;
import java.util.regex.Pattern;

/** The document's head, Terms and promises, and which of their words were said so far. */
final class Document {
  private static final Path PATH = Path.of("..", "shared", "DOC.md");
  private static final String HEAD = "What it is";
  private static final Pattern PROMISE = Pattern.compile("## (Promise \\d+): .*"), TERM = Pattern.compile("==== (\\d) (.*)");

  private final Map<String, String> sections = new LinkedHashMap<>();
  private final Map<String, boolean[]> said = new LinkedHashMap<>();

  Document() throws IOException {
    String section = "";
    for (String line : Files.readAllLines(PATH, StandardCharsets.UTF_8)) {
      Matcher promise = PROMISE.matcher(line);
      Matcher term = TERM.matcher(line);
      if (promise.matches()) {
        section = promise.group(1);
      } else if (term.matches()) {
        section = "Terms " + term.group(1);
        add(section, term.group(2));
      } else if (line.startsWith("## ")) {
        section = line.equals("## " + HEAD) ? HEAD : "";
      } else if (!section.isEmpty() && !line.startsWith("```") && !line.startsWith("Ahead of the calls")) {
        // of a promise the words behind its call's head
        add(section, line.replaceFirst("^`[^`]*`: ", ""));
      }
    }
    for (String name : sections.keySet()) {
      sections.put(name, sections.get(name).trim().replaceAll("\\s+", " "));
      said.put(name, new boolean[sections.get(name).length()]);
    }
  }

  private void add(String section, String words) {
    sections.merge(section, words, (ahead, behind) -> ahead + " " + behind);
  }

  /** Whether words stand in a section, and at one place alone; they count as said then. */
  boolean says(String section, String words) {
    String text = sections.getOrDefault(section, "");
    int from = text.indexOf(words);
    if (from < 0 || text.indexOf(words, from + 1) >= 0) {
      return false;
    }
    Arrays.fill(said.get(section), from, from + words.length(), true);
    return true;
  }

  /** The words of Terms and promises that nothing was said of, with their sections. */
  List<String> unsaid() {
    List<String> left = new ArrayList<>();
    for (Map.Entry<String, String> section : sections.entrySet()) {
      char[] signs = section.getValue().toCharArray();
      boolean[] seen = said.get(section.getKey());
      for (int i = 0; i < signs.length; i++) {
        signs[i] = seen[i] ? '\n' : signs[i];
      }
      for (String words : new String(signs).split("\n+")) {
        if (words.matches(".*[A-Za-z0-9].*") && !section.getKey().equals(HEAD)) {
          left.add(section.getKey() + ": " + words.trim());
        }
      }
    }
    return left;
  }
}
