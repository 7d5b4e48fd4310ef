import java.util.Random;

/** Long runs of calls, drawn from fixed seeds, on TwoCamps and on the Oracle: each answer must be the same. */
public final class RandomTest {
  private static final int RUNS = 800, CALLS = 170;

  private final Random random;
  private final TwoCamps real = new TwoCamps();
  private final Oracle oracle = new Oracle();
  private final int size;
  private final boolean calm;
  private final StringBuilder log = new StringBuilder();
  private long got;
  private long want;

  private RandomTest(int seed) {
    random = new Random(seed);
    size = 1 + Math.min(8, random.nextInt(11) * (random.nextInt(3) + 1) / 2);
    calm = random.nextBoolean();
  }

  public static void main(String[] args) {
    int runs = args.length > 0 ? Integer.parseInt(args[0]) : RUNS;
    int wrong = 0;
    for (int seed = 0; seed < runs && wrong < 5; seed++) {
      if (!new RandomTest(seed).run(seed)) {
        wrong++;
      }
    }
    System.out.println("RandomTest: " + runs + " runs, " + wrong + " not as due");
    if (wrong != 0) {
      System.exit(1);
    }
  }

  private boolean run(int seed) {
    int peopleFirst = random.nextInt(4) == 0 ? 0 : size;
    for (int p = 0; p < peopleFirst; p++) {
      person();
    }
    for (int i = 0; i < CALLS; i++) {
      call();
      if (got != want) {
        System.out.println("run " + seed + ": the last answered " + got + ", due is " + want + "\n" + log);
        return false;
      }
    }
    return true;
  }

  private void both(String call, long real, long oracle) {
    got = real;
    want = oracle;
    log.append(call).append(" = ").append(real).append('\n');
  }

  private int below(int bound) {
    return random.nextInt(bound);
  }

  /** A number from 0 to below a bound; sometimes another one. */
  private int about(int bound) {
    int kind = below(40);
    if (kind == 0) {
      return new int[] {-1, -2, bound, bound + 1, Integer.MIN_VALUE, Integer.MAX_VALUE}[below(6)];
    }
    return below(Math.max(1, bound));
  }

  private int somebody() {
    return about(size);
  }

  private void call() {
    switch (below(13)) {
      case 0: case 1: people(); break;
      case 2: feeling(); break;
      case 3: tape(); break;
      case 4: camp(); break;
      case 5: case 6: peace(); break;
      case 7: parts(); break;
      case 8: case 9: follows(); break;
      case 10: count(); break;
      default: host(); break;
    }
  }

  private void person() {
    int price = about(100);
    if (oracle.prices.size() < size || below(9) == 0) {
      both("person(" + price + ")", real.person(price), oracle.person(price));
    }
  }

  private void people() {
    switch (below(4)) {
      case 0: person(); break;
      case 1: case 2: feeling(); break;
      default:
        int what = about(2), person = somebody(), v = what == 1 ? about(3) - 1 : about(100);
        both("set(" + what + ", " + person + ", " + v + ")", real.set(what, person, v), oracle.set(what, person, v));
    }
  }

  private void feeling() {
    int a = somebody(), b = somebody(), f = about(Math.max(1, oracle.feelings.size())), what = about(9);
    int sign = below(20) == 0 ? 0 : below(2) * 2 - 1;
    int strength = below(20) == 0 ? 100 * below(2) : 1 + below(below(2) == 0 ? 3 : 99);
    int kinds = below(4) == 0 ? about(4) : 2 * below(2);
    switch (below(6)) {
      case 0:
        both("felt(" + f + ", " + what + ")", real.felt(f, what), oracle.felt(f, what));
        break;
      case 1:
        both("between(" + a + ", " + b + ")", real.between(a, b), oracle.between(a, b));
        break;
      default:
        both("feel(" + a + ", " + b + ", " + sign + ", " + strength + ", " + kinds + ")",
            real.feel(a, b, sign, strength, kinds), oracle.feel(a, b, sign, strength, kinds));
    }
  }

  // ---- texts, streets

  private void tape() {
    switch (below(7)) {
      case 0: case 1: case 2:
        feed(below(4) == 0 ? marred(streetText()) : streetText());
        both("street()", real.street(), oracle.street());
        break;
      case 3: case 4:
        feed(below(3) == 0 ? marred(textText()) : textText());
        both("text()", real.text(), oracle.text());
        break;
      case 5:
        int n = about(9);
        long bytes = random.nextLong();
        both("feed(" + n + ", " + bytes + ")", real.feed(n, bytes), oracle.feed(n, bytes));
        break;
      default:
        int text = about(oracle.texts.size());
        both("force(" + text + ")", real.force(text), oracle.force(text));
    }
  }

  private void feed(String text) {
    log.append("feed \"").append(text).append("\"\n");
    // what stood there before would be a FAULT nearly always
    if (below(9) > 0) {
      real.street();
      oracle.street();
    }
    for (int from = 0; from < text.length(); from += 8) {
      int n = Math.min(8, text.length() - from);
      long bytes = Check.packed(text.substring(from, from + n));
      real.feed(n, bytes);
      oracle.feed(n, bytes);
    }
  }

  private String marred(String text) {
    String signs = "abcdi+-*0159k!;() \n<=AZ_\u00e9\u0000\u007f";
    StringBuilder marred = new StringBuilder(text);
    for (int i = 0; i <= below(2); i++) {
      int at = below(marred.length() + 1);
      switch (below(3)) {
        case 0: marred.insert(at, signs.charAt(below(signs.length()))); break;
        case 1: marred.setLength(at); break;
        default: if (at < marred.length()) marred.deleteCharAt(at);
      }
    }
    return marred.toString();
  }

  private String streetText() {
    StringBuilder text = new StringBuilder();
    for (int lines = 1 + below(5); lines > 0; lines--) {
      int a = below(size), b = (a + 1 + below(Math.max(1, size - 1))) % size;
      text.append((char) ('a' + a)).append(below(2) == 0 ? '+' : '-').append((char) ('a' + b));
      int strength = 1 + below(99);
      if (strength < 10 && below(2) == 0) text.append('0');
      text.append(strength);
      if (below(3) == 0) text.append('k');
      if (below(5) == 0) text.append('!');
      text.append(';');
    }
    return text.toString();
  }

  private String textText() {
    // the room that is left, so that some get past the end of THE TAPE
    int room = 8 + below(50);
    String blank = below(2) == 0 ? " " : "\n ";
    return "cost" + blank + or(room) + ";" + (below(2) == 0 ? blank : "") + "let" + blank
        + (calm ? "not fixed or " : "") + or(room) + ";" + (below(3) == 0 ? blank : "");
  }

  private String or(int room) {
    return room < 12 || below(3) > 0 ? and(room) : or(room / 2) + " or " + and(room / 2);
  }

  private String and(int room) {
    return room < 12 || below(3) > 0 ? not(room) : and(room / 2) + " and " + not(room / 2);
  }

  private String not(int room) {
    if (below(4) == 0) return "not " + not(room);
    return room < 9 || below(3) > 0 ? sum(room) : sum(room / 2) + (below(2) == 0 ? "<" : "=") + sum(room / 2);
  }

  private String sum(int room) {
    return room < 9 || below(3) == 0 ? term(room) : sum(room / 2) + (below(2) == 0 ? "+" : " - ") + term(room / 2);
  }

  private String term(int room) {
    return room < 9 || below(3) == 0 ? one(room) : term(room / 2) + "*" + one(room / 2);
  }

  private String one(int room) {
    switch (below(room < 9 ? 4 : 6)) {
      case 0: return String.valueOf(below(below(2) == 0 ? 12000 : 4));
      case 4: return "-" + one(room - 1);
      case 5: return "(" + or(room - 2) + ")";
      default: return new String[] {"strength", "hate", "kin", "fixed", "least", "most"}[below(6)];
    }
  }

  // ---- campings

  private void camp() {
    int a = about(oracle.campings.size()), b = about(oracle.campings.size()), p = somebody();
    int kind = about(6), sheet = about(4), what = about(5), camp = below(4) == 0 ? 9 : about(4);
    switch (below(6)) {
      case 0: case 1:
        if (below(5) > 0) camps(sheet);
        both("camping(" + kind + ", " + sheet + ")", real.camping(kind, sheet), oracle.camping(kind, sheet));
        break;
      case 2: both("camped(" + a + ", " + what + ")", real.camped(a, what), oracle.camped(a, what)); break;
      case 3: both("cost(" + a + ")", real.cost(a), oracle.cost(a)); break;
      case 4: both("move(" + a + ", " + p + ", " + camp + ")", real.move(a, p, camp), oracle.move(a, p, camp)); break;
      default: both("same(" + a + ", " + b + ")", real.same(a, b), oracle.same(a, b));
    }
  }

  private void camps(int sheet) {
    int n = oracle.prices.size(), sort = below(3);
    real.sheet(sheet, sort, n);
    oracle.sheet(sheet, sort, n);
    log.append("sheet ").append(sheet).append(" of ").append(n).append('\n');
    int most = 1 + below(5);
    for (int i = 0; i < n; i++) {
      int camp = below(most) == 4 ? 9 : below(most);
      if (below(60) == 0) camp = 4 + below(9);
      log.append(" ").append(camp).append('\n');
      real.cell(sheet, i, camp);
      oracle.cell(sheet, i, camp);
    }
  }

  // ---- peace

  private void peace() {
    int a = somebody(), b = somebody(), k = about(5), i = below(3) == 0 ? -1 : about(5);
    switch (below(7)) {
      case 0: both("peace()", real.peace(), oracle.peace()); break;
      case 1: both("ring(" + i + ")", real.ring(i), oracle.ring(i)); break;
      case 2: both("least()", real.least(), oracle.least()); break;
      case 3: both("all(" + i + ")", real.all(i), oracle.all(i)); break;
      case 4: both("together(" + a + ", " + b + ")", real.together(a, b), oracle.together(a, b)); break;
      case 5: both("aside()", real.aside(), oracle.aside()); break;
      default:
        if (size < 8 || k < 3 || below(20) == 0) both("many(" + k + ")", real.many(k), oracle.many(k));
    }
  }

  private void parts() {
    int p = somebody(), n = about(21);
    switch (below(5)) {
      case 0: both("part(" + p + ")", real.part(p), oracle.part(p)); break;
      case 1: both("doors()", real.doors(), oracle.doors()); break;
      case 2: both("threes()", real.threes(), oracle.threes()); break;
      case 3: both("step(" + p + ")", real.step(p), oracle.step(p)); break;
      default: both("ends(" + n + ")", real.ends(n), oracle.ends(n));
    }
  }

  private void follows() {
    int a = somebody(), b = somebody(), part = about(2), f = about(Math.max(1, oracle.feelings.size()));
    switch (below(12)) {
      case 0: case 1: case 2:
        both("meet(" + a + ", " + b + ", " + part + ")", real.meet(a, b, part), oracle.meet(a, b, part));
        break;
      case 3: case 4: case 5: both("edge(" + f + ")", real.edge(f), oracle.edge(f)); break;
      case 6: both("image()", real.image(), oracle.image()); break;
      case 7: both("back()", real.back(), oracle.back()); break;
      default: both("bring(" + a + ", " + b + ")", real.bring(a, b), oracle.bring(a, b));
    }
  }

  private void count() {
    int what = about(8);
    both("count(" + what + ")", real.count(what), oracle.count(what));
  }

  // ---- the host

  private void host() {
    int a = about(4), b = below(3) == 0 ? a : about(4), sort = about(4) - 1, n = about(41), i = about(20), j = about(20);
    switch (below(7)) {
      case 0: both("sheet(" + a + ", " + sort + ", " + n + ")", real.sheet(a, sort, n), oracle.sheet(a, sort, n)); break;
      case 1: case 2:
        int v = below(3) == 0 ? random.nextInt() : about(10) - 1;
        both("cell(" + a + ", " + i + ", " + v + ")", real.cell(a, i, v), oracle.cell(a, i, v));
        break;
      case 3:
        int m = about(12);
        both("copy(" + a + ", " + i + ", " + b + ", " + j + ", " + m + ")", real.copy(a, i, b, j, m), oracle.copy(a, i, b, j, m));
        break;
      case 4: case 5: feels(a, i, sort, about(9)); break;
      default:
        int c = about(oracle.campings.size()), k = about(6);
        both("taken(" + c + ", " + k + ")", real.taken(c, k), oracle.taken(c, k));
    }
  }

  /** FEELINGS by a SHEET that was filled with some, mostly. */
  private void feels(int sheet, int from, int sort, int n) {
    if (below(4) > 0) {
      sort = below(3);
      real.sheet(sheet, sort, 40);
      oracle.sheet(sheet, sort, 40);
      log.append("sheet ").append(sheet).append(" of sort ").append(sort).append('\n');
      for (int i = 0; i < 40; i++) {
        int v = new int[] {somebody(), somebody(), below(2) * 2 - 1, 1 + below(99), below(4)}[(i + 40 - Math.min(from & 31, 20)) % 5];
        if (below(60) == 0) v += 256 * (1 + below(256));
        log.append(" ").append(v).append('\n');
        real.cell(sheet, i, v);
        oracle.cell(sheet, i, v);
      }
      if (below(6) == 0) sort = below(4) - 1;
    }
    both("feels(" + sheet + ", " + sort + ", " + from + ", " + n + ")",
        real.feels(sheet, sort, from, n), oracle.feels(sheet, sort, from, n));
  }
}
