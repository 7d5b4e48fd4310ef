import java.util.ArrayDeque;
import java.util.ArrayList;
import java.util.Arrays;
import java.util.HashSet;
import java.util.List;
import java.util.Set;
import java.util.function.IntPredicate;
import java.util.regex.Matcher;
import java.util.regex.Pattern;

/**
 * The document once more, told by brute force and by the Java library: what RandomTest compares TwoCamps with.
 * It shares no way of finding an answer with the class where there is another way.
 */
final class Oracle {
  static final long NO = -4611686018427387904L;

  static final class Feeling {
    int low, high, sign, strength;
    boolean kin, fixed;

    Feeling copy() {
      Feeling other = new Feeling();
      other.low = low;
      other.high = high;
      other.sign = sign;
      other.strength = strength;
      other.kin = kin;
      other.fixed = fixed;
      return other;
    }
  }

  record Camps(int kind, int[] row) { }

  record Image(List<Feeling> feelings, List<Integer> prices, List<Integer> leads, int rule) { }

  final List<Integer> prices = new ArrayList<>();
  final List<Integer> leads = new ArrayList<>();
  List<Feeling> feelings = new ArrayList<>();
  final StringBuilder tape = new StringBuilder();
  final List<List<List<String>>> texts = new ArrayList<>();
  int rule = 0;
  final List<Camps> campings = new ArrayList<>();
  final Object[] sheets = new Object[4];
  Image image = null;

  Oracle() {
    texts.add(List.of(List.of("strength"), List.of("not", "fixed")));
  }

  private int n() {
    return prices.size();
  }

  private boolean two(int a, int b) {
    return a >= 0 && b >= 0 && a < n() && b < n() && a != b;
  }

  // ---- people, feelings

  int person(int price) {
    if (price < 0 || price > 99) return -2;
    if (n() == 9) return -4;
    prices.add(price);
    leads.add(-1);
    return n() - 1;
  }

  int set(int what, int person, int v) {
    if (person < 0 || person >= n()) return -5;
    if (what == 0) return v < 0 || v > 99 ? -5 : prices.set(person, v);
    if (what == 1) return v < -1 || v > 1 ? -5 : leads.set(person, v);
    return -5;
  }

  int feel(int a, int b, int sign, int strength, int kinds) {
    if (!two(a, b) || Math.abs((long) sign) != 1 || strength < 1 || strength > 99 || kinds < 0 || kinds > 3) return -2;
    int number = between(a, b);
    Feeling feeling = number < 0 ? new Feeling() : feelings.get(number);
    if (number < 0) {
      feelings.add(feeling);
      number = feelings.size() - 1;
    }
    feeling.low = Math.min(a, b);
    feeling.high = Math.max(a, b);
    feeling.sign = sign;
    feeling.strength = strength;
    feeling.kin = kinds / 2 == 1;
    feeling.fixed = kinds % 2 == 1;
    return number;
  }

  int felt(int number, int what) {
    if (number < 0 || number >= feelings.size() || what < 0 || what > 8) return -5;
    Feeling f = feelings.get(number);
    int[] row = {f.low, f.high, f.sign, f.strength, f.kin ? 1 : 0, f.fixed ? 1 : 0, costOf(f), canBe(f) ? 1 : 0, 0};
    for (Set<Integer> three : badThrees()) if (three.contains(number)) row[8]++;
    return row[what];
  }

  int between(int a, int b) {
    if (!two(a, b)) return -2;
    for (int i = 0; i < feelings.size(); i++) {
      Feeling f = feelings.get(i);
      if (f.low == a && f.high == b || f.low == b && f.high == a) return i;
    }
    return -1;
  }

  /** Each BAD THREE as the numbers of its FEELINGS. */
  private List<Set<Integer>> badThrees() {
    List<Set<Integer>> found = new ArrayList<>();
    for (int a = 0; a < n(); a++) for (int b = a + 1; b < n(); b++) for (int c = b + 1; c < n(); c++) {
      int x = between(a, b), y = between(b, c), z = between(a, c);
      if (x < 0 || y < 0 || z < 0) continue;
      int hatreds = 0;
      for (int i : new int[] {x, y, z}) if (feelings.get(i).sign == -1) hatreds++;
      if (hatreds % 2 == 1) found.add(Set.of(x, y, z));
    }
    return found;
  }

  // ---- texts, streets

  int feed(int size, long bytes) {
    if (size < 1 || size > 8) return -2;
    if (tape.length() + size > 160) return -4;
    for (int i = 0; i < size; i++) tape.append((char) (bytes >>> 8 * i & 255));
    return tape.length();
  }

  int street() {
    String text = tape.toString();
    tape.setLength(0);
    if (n() == 0) return -100;
    char last = (char) ('a' + n() - 1);
    String line = "([a-" + last + "])([+-])(?!\\1)([a-" + last + "])(0[1-9]|[1-9][0-9]?)(k?)(!?);";
    Pattern whole = Pattern.compile("(?:" + line + ")+");
    for (int size = 0; size < text.length(); size++) {
      Matcher prefix = whole.matcher(text.substring(0, size + 1));
      if (!prefix.matches() && !prefix.hitEnd()) return -100 - size;
    }
    if (!whole.matcher(text).matches()) return -100 - text.length();
    int lines = 0;
    for (Matcher each = Pattern.compile(line).matcher(text); each.find(); lines++) {
      feel(each.group(1).charAt(0) - 'a', each.group(3).charAt(0) - 'a', each.group(2).equals("+") ? 1 : -1,
          Integer.parseInt(each.group(4)), 2 * each.group(5).length() + each.group(6).length());
    }
    return lines;
  }

  private static final Set<String> NAMES = Set.of("strength", "hate", "kin", "fixed", "least", "most");
  private static final Set<String> KEYS = Set.of("cost", "let", "or", "and", "not");
  private static final Pattern TOKEN = Pattern.compile("[ \\n]*(?:([a-z]+)|([0-9]+)|([();+\\-*<=])|(\\z)|(.))", Pattern.DOTALL);

  int text() {
    if (texts.size() == 6) return -4;
    String text = tape.toString();
    tape.setLength(0);
    List<List<String>> parts = new ArrayList<>();
    int fault = faultOf(text, parts);
    if (fault >= 0) return -100 - fault;
    texts.add(parts);
    return texts.size() - 1;
  }

  /** What is open in one bracket (or in none). */
  private static final class Level {
    int nots, minuses;
    boolean compared;
  }

  /** The place of the FAULT, or -1 and the TOKENS of both parts: by what may stand behind what. */
  private static int faultOf(String text, List<List<String>> parts) {
    Matcher tokens = TOKEN.matcher(text);
    int stage = 0;
    boolean wantsOne = true, mayNot = true;
    ArrayDeque<Level> levels = new ArrayDeque<>();
    List<String> part = new ArrayList<>();
    while (tokens.find()) {
      int group = 1;
      while (tokens.group(group) == null) group++;
      String token = tokens.group(group);
      int place = tokens.start(group);
      if (group == 4) return stage == 4 ? -1 : text.length();
      if (group == 5 || group == 1 && !NAMES.contains(token) && !KEYS.contains(token)) return place;
      if (group == 2 && token.length() > 4 || stage == 4) return place;
      if (stage == 0 || stage == 2) {
        if (!token.equals(stage == 0 ? "cost" : "let")) return place;
        stage++;
        levels.clear();
        levels.push(new Level());
        part = new ArrayList<>();
        wantsOne = true;
        mayNot = true;
        continue;
      }
      int open = levels.size() - 1;
      for (Level level : levels) open += level.nots + level.minuses;
      Level here = levels.peek();
      if (wantsOne) {
        if (group == 2 || NAMES.contains(token)) {
          here.minuses = 0;
          wantsOne = false;
        } else if (open >= 5) {
          return place;
        } else if (token.equals("-")) {
          here.minuses++;
          mayNot = false;
        } else if (token.equals("(")) {
          levels.push(new Level());
          mayNot = true;
        } else if (token.equals("not") && mayNot) {
          here.nots++;
        } else {
          return place;
        }
      } else if (token.equals(";") && levels.size() == 1) {
        parts.add(part);
        stage++;
        continue;
      } else if (token.equals(")") && levels.size() > 1) {
        levels.pop();
        levels.peek().minuses = 0;
      } else if (token.equals("and") || token.equals("or")) {
        here.nots = 0;
        here.compared = false;
        wantsOne = true;
        mayNot = true;
      } else if ("+-*".contains(token) || "<=".contains(token) && !here.compared) {
        here.compared |= "<=".contains(token);
        wantsOne = true;
        mayNot = false;
      } else {
        return place;
      }
      part.add(token);
    }
    throw new IllegalStateException("a text has an end");
  }

  /** By the last of the loosest TOKENS that join, outside of all brackets. */
  private static int value(List<String> e, Feeling f) {
    for (String joins : new String[] {"or", "and"}) {
      int at = lastOf(e, joins);
      if (at >= 0) {
        boolean left = value(e.subList(0, at), f) != 0, right = value(e.subList(at + 1, e.size()), f) != 0;
        return (joins.equals("or") ? left || right : left && right) ? 1 : 0;
      }
    }
    if (e.get(0).equals("not")) return value(e.subList(1, e.size()), f) == 0 ? 1 : 0;
    for (String joins : new String[] {"< =", "+ -", "*"}) {
      int at = lastOf(e, joins);
      if (at >= 0) {
        int left = value(e.subList(0, at), f), right = value(e.subList(at + 1, e.size()), f);
        switch (e.get(at)) {
          case "<": return left < right ? 1 : 0;
          case "=": return left == right ? 1 : 0;
          case "+": return left + right;
          case "-": return left - right;
          default: return left * right;
        }
      }
    }
    if (e.get(0).equals("-")) return -value(e.subList(1, e.size()), f);
    if (e.get(0).equals("(")) return value(e.subList(1, e.size() - 1), f);
    switch (e.get(0)) {
      case "strength": return f.strength;
      case "hate": return f.sign == -1 ? 1 : 0;
      case "kin": return f.kin ? 1 : 0;
      case "fixed": return f.fixed ? 1 : 0;
      case "least": return f.low;
      case "most": return f.high;
      default: return Integer.parseInt(e.get(0));
    }
  }

  /** The last place of one of some joining TOKENS outside of all brackets; a - joins behind a ONE alone. */
  private static int lastOf(List<String> e, String joins) {
    int depth = 0;
    for (int i = e.size() - 1; i > 0; i--) {
      String token = e.get(i);
      if (token.equals(")")) depth++;
      if (token.equals("(")) depth--;
      String ahead = e.get(i - 1);
      boolean behindOne = ahead.equals(")") || NAMES.contains(ahead) || Character.isDigit(ahead.charAt(0));
      if (depth == 0 && behindOne && Arrays.asList(joins.split(" ")).contains(token)) return i;
    }
    return -1;
  }

  private int costOf(Feeling f) {
    int cost = value(texts.get(rule).get(0), f);
    return cost < 0 ? 0 : cost > 9999 ? 9999 : cost;
  }

  private boolean canBe(Feeling f) {
    return value(texts.get(rule).get(1), f) != 0;
  }

  int force(int text) {
    if (text < 0 || text >= texts.size()) return -2;
    int was = rule;
    rule = text;
    return was;
  }

  // ---- campings

  int camping(int kind, int sheet) {
    if (kind < 0 || kind > 5 || sheet < 0 || sheet > 3) return -2;
    if (sheets[sheet] == null) return -11;
    int[] row = numbers(sheets[sheet]);
    if (row.length != n()) return -2;
    for (int camp : row) if (!isCamp(camp)) return -2;
    if (campings.size() == 10) return -4;
    campings.add(new Camps(kind, row));
    return campings.size() - 1;
  }

  private static boolean isCamp(int camp) {
    return List.of(0, 1, 2, 3, 9).contains(camp);
  }

  private static int[] numbers(Object sheet) {
    int[] row = new int[java.lang.reflect.Array.getLength(sheet)];
    for (int i = 0; i < row.length; i++) row[i] = java.lang.reflect.Array.getInt(sheet, i);
    return row;
  }

  private int[] rowOf(int camping) {
    return Arrays.copyOf(campings.get(camping).row, n());
  }

  private boolean isCamping(int camping) {
    return camping >= 0 && camping < campings.size();
  }

  private static boolean isWrong(Feeling f, int[] row) {
    if (row[f.low] == 9 || row[f.high] == 9) return false;
    return f.sign == 1 ? row[f.low] != row[f.high] : row[f.low] == row[f.high];
  }

  int camped(int camping, int what) {
    if (!isCamping(camping) || what < 0 || what > 4) return -2;
    int kind = campings.get(camping).kind;
    int[] row = rowOf(camping);
    Set<Integer> used = new HashSet<>();
    int aside = 0, wrong = 0;
    for (int camp : row) {
      used.add(camp);
      if (camp == 9) aside++;
    }
    used.remove(9);
    for (Feeling f : feelings) if (isWrong(f, row)) wrong++;
    return new int[] {kind, new int[] {4, 2, 4, 3, 2, 2}[kind], used.size(), wrong, aside}[what];
  }

  private long costOf(int kind, int[] row) {
    long cost = 0;
    for (Feeling f : feelings) {
      if (!isWrong(f, row)) continue;
      int own = costOf(f);
      cost += kind == 3 && f.sign == -1 ? own / 2 : own;
      if (!canBe(f)) cost += 100000;
    }
    Set<Integer> used = new HashSet<>();
    for (int p = 0; p < row.length; p++) {
      if (row[p] == 9) cost += kind == 4 ? prices.get(p) : 7000;
      else used.add(row[p]);
      if ((kind == 1 || kind == 4 || kind == 5) && (row[p] == 2 || row[p] == 3)) cost += 5000;
      if (kind == 5 && leads.get(p) >= 0 && leads.get(p) != row[p]) cost += 50;
    }
    if (kind == 2 || kind == 3) cost += 3 * used.size();
    return cost;
  }

  long cost(int camping) {
    return isCamping(camping) ? costOf(campings.get(camping).kind, rowOf(camping)) : NO;
  }

  long move(int camping, int person, int camp) {
    if (!isCamping(camping) || person < 0 || person >= n() || !isCamp(camp)) return NO;
    int[] row = rowOf(camping);
    row[person] = camp;
    return costOf(campings.get(camping).kind, row) - cost(camping);
  }

  int same(int a, int b) {
    if (!isCamping(a) || !isCamping(b)) return -2;
    for (int names = 0; names < 256; names++) {
      int[] other = {names & 3, names >> 2 & 3, names >> 4 & 3, names >> 6 & 3};
      if (Arrays.stream(other).distinct().count() < 4) continue;
      int[] row = rowOf(a);
      for (int p = 0; p < row.length; p++) if (row[p] != 9) row[p] = other[row[p]];
      if (Arrays.equals(row, rowOf(b))) return 1;
    }
    return 0;
  }

  // ---- peace

  private int[] rowOfBits(int bits) {
    int[] row = new int[n()];
    for (int p = 0; p < n(); p++) row[p] = bits >> p & 1;
    return row;
  }

  private boolean isPeace(int bits, int out) {
    int[] row = rowOfBits(bits);
    for (int p = 0; p < n(); p++) if ((out >> p & 1) == 1) row[p] = 9;
    for (Feeling f : feelings) if (isWrong(f, row)) return false;
    return true;
  }

  int peace() {
    for (int bits = 0; bits < 1 << n(); bits++) {
      boolean fits = true;
      for (int p = 0; p < n(); p++) if (part(p) == p && (bits >> p & 1) == 1) fits = false;
      if (fits && isPeace(bits, 0)) return bits;
    }
    return -1;
  }

  int ring(int i) {
    List<Integer> ring = peace() >= 0 ? List.of() : shortestRing();
    if (i == -1) return ring.isEmpty() ? -1 : ring.size();
    return i >= 0 && i < ring.size() ? ring.get(i) : -1;
  }

  /** By widths and by numbers: the least by letters of the shortest from the first PERSON that has one. */
  private List<Integer> shortestRing() {
    for (int size = 3; size <= 9; size++) {
      for (int p = 0; p < n(); p++) {
        List<Integer> walk = new ArrayList<>(List.of(p));
        if (goOn(walk, 0, size)) return walk;
      }
    }
    throw new IllegalStateException("without PEACE there is a RING");
  }

  private boolean goOn(List<Integer> walk, int odd, int size) {
    int last = walk.get(walk.size() - 1);
    if (walk.size() == size) {
      if (last == walk.get(0)) return false;
      int number = between(last, walk.get(0));
      return number >= 0 && (feelings.get(number).sign == -1) == (odd == 0);
    }
    for (int next = 0; next < n(); next++) {
      if (next == last || between(last, next) < 0) continue;
      walk.add(next);
      if (goOn(walk, odd ^ (feelings.get(between(last, next)).sign == -1 ? 1 : 0), size)) return true;
      walk.remove(walk.size() - 1);
    }
    return false;
  }

  /** The sum of a camping, or -1 if something is WRONG that can't be. */
  private int sumOf(int[] row) {
    int sum = 0;
    for (Feeling f : feelings) {
      if (!isWrong(f, row)) continue;
      if (!canBe(f)) return -1;
      sum += costOf(f);
    }
    return sum;
  }

  /** By bits; -1 also for those with PERSON 0 in camp 1. None with nobody there: PERSON 0 can't be in camp 0. */
  private int[] sums() {
    int[] sums = new int[n() == 0 ? 0 : 1 << n()];
    for (int bits = 0; bits < sums.length; bits++) sums[bits] = bits % 2 == 1 ? -1 : sumOf(rowOfBits(bits));
    return sums;
  }

  private static int leastOf(int[] sums, IntPredicate which) {
    int least = -1;
    for (int bits = 0; bits < sums.length; bits++) {
      if (which.test(bits) && sums[bits] >= 0 && (least < 0 || sums[bits] < least)) least = sums[bits];
    }
    return least;
  }

  private static List<Integer> allOf(int[] sums, IntPredicate which) {
    int least = leastOf(sums, which);
    List<Integer> all = new ArrayList<>();
    for (int bits = 0; bits < sums.length && least >= 0; bits++) {
      if (which.test(bits) && sums[bits] == least) all.add(bits);
    }
    return all;
  }

  int least() {
    return n() == 0 ? -5 : leastOf(sums(), bits -> true);
  }

  int all(int i) {
    List<Integer> all = allOf(sums(), bits -> true);
    if (i == -1) return all.size();
    return i >= 0 && i < all.size() ? all.get(i) : -1;
  }

  private static boolean areTogether(int bits, int a, int b) {
    return (bits >> a & 1) == (bits >> b & 1);
  }

  int together(int a, int b) {
    if (!two(a, b)) return -2;
    List<Integer> all = allOf(sums(), bits -> true);
    if (all.isEmpty()) return -3;
    if (all.stream().allMatch(bits -> areTogether(bits, a, b))) return 2;
    return all.stream().anyMatch(bits -> areTogether(bits, a, b)) ? 1 : 0;
  }

  int aside() {
    long best = Long.MAX_VALUE;
    for (int out = 0; out < 1 << n(); out++) {
      long price = 0;
      for (int p = 0; p < n(); p++) if ((out >> p & 1) == 1) price += prices.get(p);
      long rank = (Integer.bitCount(out) * 10000L + price) * 1024 + out;
      if (rank >= best) continue;
      for (int bits = 0; bits < 1 << n(); bits++) {
        if (isPeace(bits, out)) {
          best = rank;
          break;
        }
      }
    }
    return (int) (best % 1024);
  }

  int many(int k) {
    if (k < 1 || k > 4) return -2;
    int[] row = new int[n()];
    int least = -1;
    while (true) {
      int sum = sumOf(row);
      if (sum >= 0 && (least < 0 || sum < least)) least = sum;
      int p = 0;
      while (p < n() && row[p] == k - 1) row[p++] = 0;
      if (p == n()) return least;
      row[p]++;
    }
  }

  // ---- parts, steps

  private Set<Integer> reached(int person, int without) {
    Set<Integer> seen = new HashSet<>(Set.of(person));
    ArrayDeque<Integer> wait = new ArrayDeque<>(seen);
    while (!wait.isEmpty()) {
      int at = wait.poll();
      for (int p = 0; p < n(); p++) if (p != without && p != at && between(at, p) >= 0 && seen.add(p)) wait.add(p);
    }
    return seen;
  }

  int part(int person) {
    return person < 0 || person >= n() ? -2 : reached(person, -1).stream().min(Integer::compare).get();
  }

  int doors() {
    int doors = 0;
    for (int door = 0; door < n(); door++) {
      Set<Integer> others = reached(door, -1);
      others.remove(door);
      for (int p : others) if (!reached(p, door).equals(others)) doors |= 1 << door;
    }
    return doors;
  }

  int threes() {
    return badThrees().size();
  }

  int step(int person) {
    if (person < 0 || person >= n()) return -2;
    int turns = -1, most = 0;
    for (int i = feelings.size() - 1; i >= 0; i--) {
      Feeling f = feelings.get(i);
      if (f.low != person && f.high != person || !canBe(f)) continue;
      int threes = felt(i, 8);
      if (threes >= 1 && threes >= most) {
        turns = i;
        most = threes;
      }
    }
    if (turns >= 0) feelings.get(turns).sign *= -1;
    return turns;
  }

  int ends(int rounds) {
    if (rounds < 0 || rounds > 20) return -2;
    List<Feeling> as = feelings;
    feelings = copied(as);
    int answer = -1;
    for (int round = 0; round <= rounds && answer < 0; round++) {
      int turned = 0;
      for (int p = 0; p < n(); p++) if (step(p) >= 0) turned++;
      if (turned == 0) answer = round;
    }
    feelings = as;
    return answer;
  }

  // ---- what follows

  long meet(int a, int b, int part) {
    if (!two(a, b) || part < 0 || part > 1 || between(a, b) >= 0) return NO;
    List<Integer> all = allOf(sums(), bits -> true);
    if (all.isEmpty()) return NO;
    long times = all.stream().filter(bits -> areTogether(bits, a, b)).count();
    long divisor = 1;
    for (long d = 1; d <= all.size(); d++) if (times % d == 0 && all.size() % d == 0) divisor = d;
    return (part == 0 ? times : all.size()) / divisor;
  }

  long edge(int number) {
    List<Integer> all = allOf(sums(), bits -> true);
    if (number < 0 || number >= feelings.size() || all.isEmpty()) return NO;
    Feeling f = feelings.get(number);
    int right = leastOf(sums(), bits -> !isWrong(f, rowOfBits(bits)));
    int wrong = leastOf(sums(), bits -> isWrong(f, rowOfBits(bits)));
    if (right < 0 || wrong < 0) return 1000000;
    return wrong - right;
  }

  int bring(int person, int other) {
    if (!two(person, other)) return -2;
    int[] sums = sums();
    List<Integer> all = allOf(sums, bits -> true);
    if (all.isEmpty() || !areTogether(all.get(0), person, other)) return -3;
    for (int size = 0; size < n(); size++) {
      for (int told = 0; told < 1 << n(); told++) {
        if (Integer.bitCount(told) != size || (told >> person & 1) == 1 || (told >> other & 1) == 1) continue;
        int these = told;
        if (allOf(sums, bits -> (bits & these) == (all.get(0) & these)).stream()
            .allMatch(bits -> areTogether(bits, person, other))) return told;
      }
    }
    return -1;
  }

  private static List<Feeling> copied(List<Feeling> as) {
    List<Feeling> row = new ArrayList<>();
    for (Feeling f : as) row.add(f.copy());
    return row;
  }

  int image() {
    image = new Image(copied(feelings), List.copyOf(prices), List.copyOf(leads), rule);
    return feelings.size();
  }

  int back() {
    if (image == null) return -3;
    feelings = copied(image.feelings);
    for (int p = 0; p < image.prices.size(); p++) {
      prices.set(p, image.prices.get(p));
      leads.set(p, image.leads.get(p));
    }
    rule = image.rule;
    return feelings.size();
  }

  int count(int what) {
    if (what < 0 || what > 7) return -2;
    int hatreds = 0, parts = 0;
    for (Feeling f : feelings) if (f.sign == -1) hatreds++;
    for (int p = 0; p < n(); p++) if (part(p) == p) parts++;
    return new int[] {n(), feelings.size(), texts.size(), tape.length(), rule, campings.size(), hatreds, parts}[what];
  }

  // ---- the host: as the Java machine has it

  int sheet(int sheet, int sort, int size) {
    if (sheet < 0 || sheet > 3 || sort < -1 || sort > 2 || sort >= 0 && size > 40) return -2;
    try {
      sheets[sheet] = sort < 0 ? null : sort == 0 ? new byte[size] : sort == 1 ? (Object) new short[size] : new int[size];
      return 1;
    } catch (NegativeArraySizeException e) {
      return -14;
    }
  }

  int cell(int sheet, int i, int v) {
    if (sheet < 0 || sheet > 3) return -2;
    try {
      Object row = sheets[sheet];
      if (row instanceof byte[] bytes) bytes[i] = (byte) v;
      else if (row instanceof short[] shorts) shorts[i] = (short) v;
      else ((int[]) row)[i] = v;
      return 1;
    } catch (NullPointerException e) {
      return -11;
    } catch (ArrayIndexOutOfBoundsException e) {
      return -12;
    }
  }

  int copy(int sheet, int i, int other, int j, int size) {
    if (sheet < 0 || sheet > 3 || other < 0 || other > 3) return -2;
    try {
      System.arraycopy(sheets[sheet], i, sheets[other], j, size);
      return size;
    } catch (NullPointerException e) {
      return -11;
    } catch (ArrayStoreException e) {
      return -13;
    } catch (IndexOutOfBoundsException e) {
      return -12;
    }
  }

  int feels(int sheet, int sort, int from, int size) {
    if (sheet < 0 || sheet > 3 || sort < 0 || sort > 2 || size < 0 || size > 8) return -2;
    Object row = sheets[sheet];
    if (row == null) return -11;
    if (!List.of(byte[].class, short[].class, int[].class).get(sort).isInstance(row)) return -13;
    int came = 0;
    try {
      for (int k = 0; k < size; k++) {
        int[] f = new int[5];
        for (int m = 0; m < 5; m++) f[m] = java.lang.reflect.Array.getInt(row, from + 5 * k + m);
        if (feel(f[0], f[1], f[2], f[3], f[4]) >= 0) came++;
      }
    } catch (ArrayIndexOutOfBoundsException e) {
      return -12;
    }
    return came;
  }

  int taken(int camping, int k) {
    if (k < 0 || k > 5) return -2;
    if (!isCamping(camping)) return -11;
    List<List<Integer>> under = List.of(List.of(0), List.of(0, 1), List.of(0, 2), List.of(0, 2, 3), List.of(0, 1, 4), List.of(0, 1, 5));
    Camps camps = campings.get(camping);
    return under.get(camps.kind).contains(k) ? camps.row.length : -13;
  }
}
