import java.util.ArrayList;
import java.util.LinkedHashSet;
import java.util.List;
import java.util.Set;
import java.util.regex.Matcher;
import java.util.regex.Pattern;

/** The methods of a text without comments, and which may call which: known by name and number of arguments. */
final class Methods {
  private static final Pattern HEAD = Pattern.compile(
      "(?m)^( {4}| {8})((?:public |private |static |final )*)([\\w\\[\\]]+ )?(\\w+)\\(([^)]*)\\) \\{$");
  private static final Pattern CALL = Pattern.compile("(?<!\\b(?:Math|Arrays|Integer|System)\\.)\\b(\\w+)\\(");

  /** One method, or constructor (which has no type). */
  static final class Method {
    String name, modifiers, body;
    int line, lines, parameters;
    boolean isConstructor;
    final Set<Method> calls = new LinkedHashSet<>();

    /** All that may be called from it, by others between, too. */
    Set<Method> reached() {
      Set<Method> seen = new LinkedHashSet<>(calls);
      List<Method> wait = new ArrayList<>(calls);
      for (int i = 0; i < wait.size(); i++) {
        for (Method next : wait.get(i).calls) {
          if (seen.add(next)) {
            wait.add(next);
          }
        }
      }
      return seen;
    }

    /** Those that it may call and that may call it; itself with them, if it recurs. */
    Set<Method> cycle() {
      Set<Method> others = new LinkedHashSet<>();
      for (Method other : reached()) {
        if (other.reached().contains(this)) {
          others.add(other);
        }
      }
      return others;
    }

    /** How deep calls go from it, those that recur told once together. */
    int depth() {
      int deepest = 0;
      Set<Method> cycle = cycle();
      Set<Method> level = new LinkedHashSet<>(cycle);
      level.add(this);
      for (Method one : level) {
        for (Method next : one.calls) {
          if (!cycle.contains(next)) {
            deepest = Math.max(deepest, next.depth());
          }
        }
      }
      return deepest + 1;
    }

    @Override
    public String toString() {
      return name + " in line " + line;
    }
  }

  final List<Method> all = new ArrayList<>();

  Methods(String bare) {
    Matcher head = HEAD.matcher(bare);
    while (head.find()) {
      Method method = new Method();
      method.name = head.group(4);
      method.modifiers = head.group(2);
      method.isConstructor = head.group(3) == null;
      method.parameters = count(head.group(5));
      int end = bare.indexOf("\n" + head.group(1) + "}\n", head.end());
      method.body = bare.substring(head.end(), end);
      method.line = lineOf(bare, head.start());
      method.lines = lineOf(bare, end + 1) - method.line + 1;
      all.add(method);
    }
    for (Method method : all) {
      findCalls(method);
    }
  }

  private static int lineOf(String text, int place) {
    return (int) text.substring(0, place).chars().filter(sign -> sign == '\n').count() + 1;
  }

  private void findCalls(Method method) {
    Matcher call = CALL.matcher(method.body);
    while (call.find()) {
      int arguments = count(argumentsAt(method.body, call.end()));
      for (Method other : all) {
        boolean isMade = method.body.startsWith("new ", call.start() - 4);
        if (other.name.equals(call.group(1)) && other.parameters == arguments && other.isConstructor == isMade) {
          method.calls.add(other);
        }
      }
    }
  }

  /** What stands from a place to the bracket that closes there. */
  private static String argumentsAt(String body, int from) {
    int open = 1;
    int to = from;
    while (open > 0) {
      char sign = body.charAt(to);
      open += sign == '(' ? 1 : sign == ')' ? -1 : 0;
      to++;
    }
    return body.substring(from, to - 1);
  }

  /** How many stand there, parted by commas outside of brackets. */
  private static int count(String arguments) {
    if (arguments.isBlank()) {
      return 0;
    }
    int open = 0;
    int found = 1;
    for (char sign : arguments.toCharArray()) {
      open += "([".indexOf(sign) >= 0 ? 1 : ")]".indexOf(sign) >= 0 ? -1 : 0;
      found += sign == ',' && open == 0 ? 1 : 0;
    }
    return found;
  }
}
