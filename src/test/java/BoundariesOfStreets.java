/** Terms 1 (a STREET) and promises 7 and 8. */
final class BoundariesOfStreets {
  private static final int BAD = Boundary.BAD, FULL = Boundary.FULL, LOW = Boundary.LOW, HIGH = Boundary.HIGH;

  private BoundariesOfStreets() {
  }

  static void ask(Boundary b) {
    tape(b);
    line(b);
    strength(b);
    kinds(b);
    faults(b);
    told(b);
    promise7(b);
    promise7Full(b);
    promise8(b);
  }

  /** So many LINES by so many PEOPLE; what is told is in FEELING 0. */
  private static TwoCamps good(Boundary b, int people, String lines, int count) {
    TwoCamps x = Check.people(people);
    b.due("street() of \"" + lines + "\", " + people + " PEOPLE", Check.street(x, lines), count);
    return x;
  }

  private static void fault(Boundary b, int people, String lines, int place) {
    TwoCamps x = Check.people(people);
    b.due("street() of \"" + lines + "\", " + people + " PEOPLE", Check.street(x, lines), -100 - place);
    b.due("count(1) behind \"" + lines + "\"", x.count(1), 0);
  }

  /** LINES of 5 bytes each. */
  private static String lines(int count) {
    return "a+b1;".repeat(count);
  }

  private static void tape(Boundary b) {
    b.says("Terms 1", "A STREET is read from THE TAPE (160 bytes at most):");
    TwoCamps x = Check.people(2);
    Check.feed(x, lines(31) + "b-a99");
    b.due("count(3)", x.count(3), 160);
    b.due("feed(1, ';') with 160 bytes", x.feed(1, ';'), FULL);
    b.due("street() of 160 bytes that ends too early", x.street(), -260);
    Check.feed(x, lines(31) + "b-a9;");
    b.due("count(3)", x.count(3), 160);
    b.due("street() of 160 bytes", x.street(), 32);
    b.due("felt(0, 3), by the last of 32 LINES", x.felt(0, 3), 9);
  }

  private static void line(Boundary b) {
    b.says("Terms 1", "LINES, each with ; behind it:");
    good(b, 2, "a+b1;", 1);
    good(b, 2, "a+b1;a+b1;", 2);
    fault(b, 2, "a+b1", 4);
    fault(b, 2, "a+b1;a+b1", 9);
    fault(b, 2, "a+b1,", 4);
    fault(b, 2, "a+b1:", 4);
    fault(b, 2, "a+b1a+b1;", 4);
    fault(b, 2, "a+b1;;", 5);
    fault(b, 2, ";a+b1;", 0);
    b.says("Terms 1", "a PERSON (a letter a .. i, one that there is),");
    good(b, 9, "i+a1;", 1);
    good(b, 9, "a+i1;", 1);
    fault(b, 9, "j+a1;", 0);
    fault(b, 9, "`+a1;", 0);
    fault(b, 9, "A+b1;", 0);
    fault(b, 9, "0+b1;", 0);
    fault(b, 9, "+a1;", 0);
    fault(b, 8, "i+a1;", 0);
    good(b, 8, "h+a1;", 1);
    fault(b, 2, "c+a1;", 0);
    fault(b, 0, "a+b1;", 0);
    b.says("Terms 1", "+ or -,");
    b.due("felt(0, 2) by +", good(b, 2, "a+b1;", 1).felt(0, 2), 1);
    b.due("felt(0, 2) by -", good(b, 2, "a-b1;", 1).felt(0, 2), -1);
    for (String sign : new String[] {"*", ",", ".", "=", " ", "1", "k", "!", ";", "b", "\0"}) {
      fault(b, 2, "a" + sign + "b1;", 1);
    }
    fault(b, 2, "a+-b1;", 2);
    b.says("Terms 1", "a PERSON (another one),");
    fault(b, 2, "a+a1;", 2);
    fault(b, 2, "b-b1;", 2);
    fault(b, 2, "a+b1;b+b1;", 7);
    fault(b, 9, "i+i1;", 2);
    fault(b, 9, "a+j1;", 2);
    fault(b, 9, "a+`1;", 2);
    fault(b, 9, "a+B1;", 2);
    fault(b, 9, "a+1;", 2);
    fault(b, 2, "a+c1;", 2);
    fault(b, 1, "a+b1;", 2);
  }

  private static void strength(Boundary b) {
    b.says("Terms 1", "a STRENGTH (1 or 2 digits, 1 at least),");
    String[] strengths = {"1", "9", "01", "09", "10", "99"};
    for (String strength : strengths) {
      TwoCamps x = good(b, 2, "a+b" + strength + ";", 1);
      b.due("felt(0, 3) by " + strength, x.felt(0, 3), Integer.parseInt(strength));
    }
    fault(b, 2, "a+b;", 3);
    fault(b, 2, "a+bk;", 3);
    fault(b, 2, "a+b!;", 3);
    fault(b, 2, "a+b-1;", 3);
    fault(b, 2, "a+b/;", 3);
    fault(b, 2, "a+b:;", 3);
    fault(b, 2, "a+b0;", 4);
    fault(b, 2, "a+b0k;", 4);
    fault(b, 2, "a+b0!;", 4);
    fault(b, 2, "a+b00;", 4);
    fault(b, 2, "a+b1/;", 4);
    fault(b, 2, "a+b001;", 4);
    fault(b, 2, "a+b011;", 5);
    fault(b, 2, "a+b100;", 5);
    fault(b, 2, "a+b999;", 5);
  }

  private static void kinds(Boundary b) {
    b.says("Terms 1", "then perhaps k (KIN),");
    TwoCamps kin = good(b, 2, "a+b1k;", 1);
    b.due("felt(0, 4) by k", kin.felt(0, 4), 1);
    b.due("felt(0, 5) by k", kin.felt(0, 5), 0);
    fault(b, 2, "a+b1kk;", 5);
    fault(b, 2, "a+b1K;", 4);
    fault(b, 2, "a+b1j;", 4);
    fault(b, 2, "a+b1k1;", 5);
    b.says("Terms 1", "then perhaps ! (FIXED).");
    TwoCamps fixed = good(b, 2, "a+b1!;", 1);
    b.due("felt(0, 4) by !", fixed.felt(0, 4), 0);
    b.due("felt(0, 5) by !", fixed.felt(0, 5), 1);
    TwoCamps both = good(b, 2, "a+b12k!;", 1);
    b.due("felt(0, 4) by k!", both.felt(0, 4), 1);
    b.due("felt(0, 5) by k!", both.felt(0, 5), 1);
    TwoCamps neither = good(b, 2, "a+b1;", 1);
    b.due("felt(0, 4) by neither", neither.felt(0, 4), 0);
    b.due("felt(0, 5) by neither", neither.felt(0, 5), 0);
    fault(b, 2, "a+b1!k;", 5);
    fault(b, 2, "a+b1!!;", 5);
    fault(b, 2, "a+b1k!k;", 6);
    fault(b, 2, "a+b1k!!;", 6);
    b.says("Terms 1", "Nothing stands between.");
    for (String blank : new String[] {" ", "\n", "\t", "\0", "\u00ff"}) {
      fault(b, 2, blank + "a+b1k!;", 0);
      fault(b, 2, "a" + blank + "+b1k!;", 1);
      fault(b, 2, "a+" + blank + "b1k!;", 2);
      fault(b, 2, "a+b" + blank + "1k!;", 3);
      fault(b, 2, "a+b1" + blank + "k!;", 4);
      fault(b, 2, "a+b1k" + blank + "!;", 5);
      fault(b, 2, "a+b1k!" + blank + ";", 6);
      fault(b, 2, "a+b1k!;" + blank, 7);
      fault(b, 2, "a+b1;" + blank + "a+b1;", 5);
    }
  }

  private static void faults(Boundary b) {
    b.says("Terms 1", "FAULT: the place of the first byte with which no STREET goes on");
    fault(b, 2, "x*x0x", 0);
    fault(b, 2, "a+b1;a*a0;", 6);
    fault(b, 2, "a+b0;x", 4);
    fault(b, 2, lines(31) + "a+b1x", 159);
    fault(b, 2, lines(31) + "x+b1;", 155);
    b.says("Terms 1", "(THE TAPE's size, if it ends too early, also if there is no LINE).");
    fault(b, 2, "", 0);
    fault(b, 0, "", 0);
    String line = "a+b12k!;";
    for (int size = 0; size < line.length(); size++) {
      fault(b, 2, line.substring(0, size), size);
    }
    for (int size = 1; size < line.length(); size++) {
      fault(b, 2, line + line.substring(0, size), line.length() + size);
    }
    fault(b, 2, "a+b0", 4);
    fault(b, 2, lines(31) + "a+b12", 160);
  }

  private static void told(Boundary b) {
    b.says("Terms 1", "LINES are told one behind the other;");
    TwoCamps x = good(b, 9, "i+h1;a-b2;c+a3;", 3);
    BoundariesOfPeople.row(b, x, 0, 7, 8, 1, 1);
    BoundariesOfPeople.row(b, x, 1, 0, 1, -1, 2);
    BoundariesOfPeople.row(b, x, 2, 0, 2, 1, 3);
    b.says("Terms 1", "one for two PEOPLE who have a FEELING tells that FEELING anew (it keeps its number).");
    TwoCamps y = good(b, 3, "a+b1k!;b+c2;b-a99;", 3);
    b.due("count(1)", y.count(1), 2);
    BoundariesOfPeople.row(b, y, 0, 0, 1, -1, 99, 0, 0);
    BoundariesOfPeople.row(b, y, 1, 1, 2, 1, 2, 0, 0);
    b.due("street() of another STREET", Check.street(y, "c-b7k;"), 1);
    b.due("count(1)", y.count(1), 2);
    BoundariesOfPeople.row(b, y, 1, 1, 2, -1, 7, 1, 0);
    TwoCamps all = BoundariesOfPeople.all36(1, 0);
    b.due("street() with 36 FEELINGS", Check.street(all, "i-h9!;b-a8k;"), 2);
    b.due("count(1)", all.count(1), 36);
    BoundariesOfPeople.row(b, all, 35, 7, 8, -1, 9, 0, 1);
    BoundariesOfPeople.row(b, all, 0, 0, 1, -1, 8, 1, 0);
  }

  private static void promise7(Boundary b) {
    TwoCamps x = Check.people(2);
    b.says("Promise 7", "The n lowest bytes of a number, the lowest first, come behind THE TAPE: how many it has.");
    b.due("feed(1, ..)", x.feed(1, Check.packed("a+++++++")), 1);
    b.due("feed(2, ..)", x.feed(2, Check.packed("-bbbbbbb")), 3);
    b.due("feed(8, ..)", x.feed(8, Check.packed("9k!;b+a0")), 11);
    b.due("feed(2, ..)", x.feed(2, Check.packed("7;")), 13);
    b.due("count(3)", x.count(3), 13);
    b.due("street()", x.street(), 2);
    BoundariesOfPeople.row(b, x, 0, 0, 1, 1, 7, 0, 0);
    b.due("feed(8, -1)", x.feed(8, -1L), 8);
    b.due("text() of eight bytes 255", x.text(), -100);
    b.due("feed(8, ..)", x.feed(8, Check.packed("a-b5;a-b")), 8);
    b.due("feed(2, ..) of a number below 0", x.feed(2, Long.MIN_VALUE + Check.packed("6;")), 10);
    b.due("street()", x.street(), 2);
    b.due("felt(0, 3)", x.felt(0, 3), 6);
    b.due("feed(8, ..) of a number below 0", x.feed(8, Check.packed("a-b12k;\u0080")), 8);
    b.due("street(), the highest byte as any other one", x.street(), -107);
    b.says("Promise 7", "BAD: n is not 1 .. 8.");
    for (int n : new int[] {0, 9, -1, LOW, HIGH}) {
      b.due("feed(" + n + ", 'a')", x.feed(n, 'a'), BAD);
    }
    b.due("count(3), as it was", x.count(3), 0);
    b.due("feed(1, 'a')", x.feed(1, 'a'), 1);
    b.due("feed(8, 'a')", x.feed(8, 'a'), 9);
  }

  private static void promise7Full(Boundary b) {
    b.says("Promise 7", "FULL.");
    for (int n = 1; n <= 8; n++) {
      TwoCamps x = Check.people(2);
      Check.feed(x, lines(31) + "a+b12".substring(0, 5));
      b.due("feed(" + n + ", 0) with 160 bytes", x.feed(n, 0), FULL);
      b.due("count(3)", x.count(3), 160);
      Check.street(x, "");
      String rest = lines(32).substring(0, 160 - n);
      Check.feed(x, rest);
      if (n < 8) {
        b.due("feed(" + (n + 1) + ", 0) with room for " + n, x.feed(n + 1, 0), FULL);
      }
      b.due("count(3), as it was", x.count(3), 160 - n);
      b.due("feed(" + n + ", ..) with room for " + n, x.feed(n, Check.packed(lines(2).substring(10 - n))), 160);
      b.due("street(), nothing came by what was FULL", x.street(), 32);
    }
  }

  private static void promise8(Boundary b) {
    TwoCamps x = Check.people(9);
    b.says("Promise 8", "THE TAPE, which is empty then (by a FAULT, too), is a STREET: how many LINES;");
    b.due("street() of a LINE", Check.street(x, "a+b1;"), 1);
    b.due("count(3)", x.count(3), 0);
    b.due("street() of three LINES for one FEELING", Check.street(x, "a+b1;a+b2;b+a3;"), 3);
    b.due("count(3)", x.count(3), 0);
    b.due("street() with a FAULT", Check.street(x, "a+b1;x"), -105);
    b.due("count(3)", x.count(3), 0);
    b.due("feed(1, 'a')", x.feed(1, 'a'), 1);
    b.due("street() of what came since", x.street(), -101);
    b.due("street() of an empty TAPE", x.street(), -100);
    b.due("street() of 32 LINES", Check.street(x, lines(32)), 32);
    b.says("Promise 8", "-100 less the place of its FAULT (nothing is told).");
    TwoCamps y = Check.told(3, "a+b5k;");
    b.due("street(), FAULT at 0", Check.street(y, "?"), -100);
    b.due("street(), FAULT behind two LINES", Check.street(y, "a-b9!;b+c1;c"), -112);
    b.due("count(1), as it was", y.count(1), 1);
    BoundariesOfPeople.row(b, y, 0, 0, 1, 1, 5, 1, 0);
    b.due("street(), FAULT at the last byte of 160", Check.street(y, lines(31) + "b+c1."), -259);
    b.due("street(), FAULT behind 160", Check.street(y, lines(31) + "b+c11"), -260);
    b.due("count(1), as it was", y.count(1), 1);
    BoundariesOfPeople.row(b, y, 0, 0, 1, 1, 5, 1, 0);
  }
}
