/** Promises 28 to 33: what follows. */
public final class FollowsTest {
  private static final Check check = new Check();
  private static final int LOW = Integer.MIN_VALUE, HIGH = Integer.MAX_VALUE;
  private static final long NO = TwoCamps.NO;

  public static void main(String[] args) {
    promise28();
    promise29();
    promise30();
    promise30Refused();
    promises31And32();
    promise32OfAll();
    promise33();
    check.end("FollowsTest");
  }

  private static void meet(TwoCamps x, int a, int b, long above, long below) {
    check.due("28: meet(" + a + ", " + b + ", 0)", x.meet(a, b, 0), above);
    check.due("28: meet(" + a + ", " + b + ", 1)", x.meet(a, b, 1), below);
  }

  private static void promise28() {
    TwoCamps x = Check.told(6, "a-b5;b-c5;c-a5;c+d9;d-e2;");
    // ALL: a bc, b ac, c ab are the odd ones out by turns; d with c, e not with d; f anywhere
    meet(x, 0, 3, 1, 3);
    meet(x, 3, 0, 1, 3);
    meet(x, 2, 4, 0, 1);
    meet(x, 4, 0, 2, 3);
    meet(x, 5, 0, 1, 2);
    meet(x, 0, 2, NO, NO);
    meet(x, 3, 4, NO, NO);
    meet(x, 1, 1, NO, NO);
    meet(x, 0, 6, NO, NO);
    meet(x, -1, 0, NO, NO);
    meet(x, HIGH, LOW, NO, NO);
    check.due("28: part 2", x.meet(0, 3, 2), NO);
    check.due("28: part -1", x.meet(0, 3, -1), NO);
    check.due("28: part HIGH", x.meet(0, 3, HIGH), NO);
    meet(Check.told(3, "a+b1;b+c1;"), 0, 2, 1, 1);
    meet(Check.told(3, "a+b1;b-c1;"), 0, 2, 0, 1);
    meet(Check.told(4, "a-b5!;b-c5!;c-a5!;"), 0, 3, NO, NO);
    meet(Check.people(9), 7, 8, 1, 2);
    // four who hate each other: two and two, so each is with one of three
    TwoCamps four = Check.told(5, "a-b1;a-c1;a-d1;b-c1;b-d1;c-d1;d+e9;");
    meet(four, 4, 0, 1, 3);
    check.due("28: all of them", four.all(-1), 3);
  }

  private static void promise29() {
    TwoCamps x = Check.told(6, "a-b5;b-c7;c-a9;c+d3;e+f2!;");
    // LEAST is 5: a - b WRONG alone
    long[] due = {-2, 2, 4, 3, 1000000};
    for (int f = 0; f < due.length; f++) {
      check.due("29: edge(" + f + ")", x.edge(f), due[f]);
    }
    check.due("29: nothing changes", x.least(), 5);
    for (int f : new int[] {-1, 5, 36, HIGH, LOW}) {
      check.due("29: edge(" + f + ")", x.edge(f), NO);
    }
    x.feel(1, 2, -1, 5, 0);
    check.due("29: in some", x.edge(0), 0);
    check.due("29: in some", x.edge(1), 0);
    check.due("29: in none", x.edge(2), 4);
    TwoCamps none = Check.told(3, "a-b5!;b-c5!;c-a5!;");
    check.due("29: none of ALL", none.edge(0), NO);
    TwoCamps forced = Check.told(4, "a-b9;b-c7!;c-a8!;a+d1;");
    check.due("29: WRONG in all, and can't be right", forced.edge(0), 1000000);
    check.due("29: right in all, and can't be WRONG", forced.edge(1), 1000000);
    check.due("29: free", forced.edge(3), 1);
    TwoCamps kin = Check.told(2, "a+b5;");
    Check.text(kin, "cost 0;let 1;");
    kin.force(1);
    check.due("29: for nothing", kin.edge(0), 0);
  }

  private static void promise30() {
    TwoCamps x = Check.told(5, "a-b4;b-c4;a-c4;c+d6;");
    // ALL, but for e, who is free: b, or c and d, or b and c and d, against the others
    check.due("30: the first of ALL", x.all(0), 2);
    check.due("30: always together", x.bring(2, 3), 0);
    check.due("30: always together", x.bring(3, 2), 0);
    check.due("30: free", x.bring(0, 4), -1);
    check.due("30: b as it is leaves c against a, d does not", x.bring(0, 2), 8);
    check.due("30: the other way round", x.bring(2, 0), 8);
    check.due("30: by c", x.bring(0, 3), 4);
    // ALL: c and d against b and e, a with these or with those, f anywhere
    TwoCamps y = Check.told(6, "b-c1;c-d1;d-b1;e-c1;e-d1;");
    check.due("30: the first of ALL", y.all(0), 12);
    check.due("30: always together", y.bring(1, 4), 0);
    check.due("30: by c, d or e, the least as bits", y.bring(0, 1), 4);
    check.due("30: by b, c or d, the least as bits", y.bring(4, 0), 2);
    check.due("30: free", y.bring(1, 5), -1);
    check.due("30: in two camps", y.bring(1, 3), -3);
    promise30Two();
  }

  private static void promise30Two() {
    // b is with e (and f), c against d
    TwoCamps two = Check.told(5, "e+b1;d-c2;");
    check.due("30: the first of ALL", two.all(0), 4);
    check.due("30: both c and e must be told", two.bring(1, 3), 4 | 16);
    TwoCamps more = Check.told(6, "e+b1;d-c2;b+f1;");
    check.due("30: f is as good as e, but greater", more.bring(1, 3), 4 | 16);
    check.due("30: b is as good as e and f, and less", more.bring(4, 3), 2 | 4);
    // a ring of five hatreds: one is WRONG in each of ALL; b and d are against the others in the first
    TwoCamps ring = Check.told(5, "a-b1;b-c1;c-d1;d-e1;e-a1;");
    check.due("30: the first of ALL", ring.all(0), 10);
    check.due("30: by d or e, the least as bits", ring.bring(0, 2), 8);
    check.due("30: by e", ring.bring(1, 3), 16);
    check.due("30: not even by all others", ring.bring(0, 4), -1);
    check.due("30: not even by all others", ring.bring(2, 4), -1);
    TwoCamps fewer = Check.told(5, "e+b1;b-c1;c+d1;d+e2;");
    check.due("30: e alone, though b and c would do and are less as bits", fewer.bring(0, 3), 16);
    // bound by the least sum alone, told at that: a - b or a + d is WRONG
    TwoCamps sum = Check.told(5, "a-b1;d+a1;c+e2;d+b2;");
    check.due("30: d tells b, e tells c", sum.bring(1, 2), 8 | 16);
  }

  private static void promise30Refused() {
    TwoCamps x = Check.told(3, "a-b5;b+c5;");
    check.due("30: in two camps", x.bring(0, 1), -3);
    check.due("30: in two camps", x.bring(2, 0), -3);
    int[][] bad = {{0, 0}, {2, 2}, {0, 3}, {3, 0}, {-1, 0}, {0, -1}, {HIGH, LOW}, {LOW, LOW}};
    for (int[] c : bad) {
      check.due("30: bring(" + c[0] + ", " + c[1] + ")", x.bring(c[0], c[1]), -2);
    }
    TwoCamps none = Check.told(4, "a-b5!;b-c5!;c-a5!;");
    check.due("30: none of ALL", none.bring(0, 3), -3);
    check.due("30: BAD ahead of STATE", none.bring(3, 3), -2);
    check.due("30: NONE", Check.people(2).bring(0, 1), -1);
  }

  private static void promises31And32() {
    TwoCamps x = Check.told(3, "a+b5k;b-c6!;");
    check.due("32: no IMAGE", x.back(), -3);
    Check.text(x, "cost 1;let 1;");
    x.force(1);
    x.set(1, 2, 1);
    check.due("31: image()", x.image(), 2);
    x.force(0);
    x.set(0, 0, 70);
    x.set(1, 2, 0);
    x.feel(0, 1, -1, 9, 1);
    x.feel(0, 2, 1, 1, 0);
    x.person(33);
    x.set(1, 3, 1);
    check.due("32: back()", x.back(), 2);
    check.due("32: how many FEELINGS", x.count(1), 2);
    check.due("32: no FEELING more", x.between(0, 2), -1);
    check.due("32: no such FEELING", x.felt(2, 0), -5);
    x.feel(3, 2, 1, 1, 0);
    check.due("32: one of who came", x.between(2, 3), 2);
    x.back();
    check.due("32: it is gone", x.between(2, 3), -1);
    check.due("32: it is gone", x.between(3, 2), -1);
    int[][] rows = {{0, 1, 1, 5, 1, 0, 1, 1, 0}, {1, 2, -1, 6, 0, 1, 1, 1, 0}};
    for (int f = 0; f < 2; f++) {
      for (int what = 0; what < 9; what++) {
        check.due("32: felt(" + f + ", " + what + ")", x.felt(f, what), rows[f][what]);
      }
    }
    check.due("32: THE RULE", x.count(4), 1);
    check.due("32: a PRICE", x.set(0, 0, 1), 1);
    check.due("32: LED", x.set(1, 2, -1), 1);
    check.due("32: who came since stays", x.count(0), 4);
    check.due("32: with a PRICE", x.set(0, 3, 1), 33);
    check.due("32: and LED", x.set(1, 3, -1), 1);
    check.due("32: a new FEELING has the next number", x.feel(2, 3, 1, 1, 0), 2);
    check.due("32: back again", x.back(), 2);
    check.due("32: back again, a PRICE", x.set(0, 0, 5), 1);
    check.due("32: back again, a PRICE of who came since", x.set(0, 3, 1), 1);
    check.due("32: another one with that number", x.feel(3, 0, 1, 1, 0), 2);
    check.due("32: another one's PEOPLE", x.felt(2, 0), 0);
    check.due("31: a later IMAGE", x.image(), 3);
    x.set(0, 3, 88);
    check.due("32: a later IMAGE", x.back(), 3);
    check.due("32: it keeps who came", x.set(0, 3, 7), 1);
  }

  private static void promise32OfAll() {
    TwoCamps x = new TwoCamps();
    check.due("31: of nothing", x.image(), 0);
    x.person(4);
    x.person(5);
    x.feel(0, 1, 1, 1, 0);
    Check.camping(x, 1, 0, 1);
    x.feed(3, 0);
    check.due("32: of nothing", x.back(), 0);
    check.due("32: PEOPLE stay", x.count(0), 2);
    check.due("32: CAMPINGS stay", x.count(5), 1);
    check.due("32: THE TAPE stays", x.count(3), 3);
    check.due("32: the SHEET stays", x.cell(3, 1, 0), 1);
    check.due("32: PRICES of who came stay", x.set(0, 1, 0), 5);
    TwoCamps y = Check.told(3, "a-b1;b+c1;c+a1;");
    y.image();
    y.step(0);
    y.back();
    check.due("32: a STEP is taken back", y.threes(), 1);
    Check.street(y, "a+b7;");
    y.back();
    check.due("32: a STREET is taken back", y.felt(0, 3), 1);
    Check.text(y, "cost 2;let 1;");
    y.back();
    check.due("32: TEXTS stay", y.count(2), 2);
  }

  private static void promise33() {
    TwoCamps x = Check.told(5, "a-b1;b+c1;d-e2!;");
    Check.text(x, "cost 1;let 1;");
    Check.text(x, "cost 2;let 1;");
    x.force(2);
    Check.camping(x, 0, 0, 0, 0, 0, 0);
    x.feed(7, 0);
    int[] due = {5, 3, 3, 7, 2, 1, 2, 2};
    for (int what = 0; what < due.length; what++) {
      check.due("33: count(" + what + ")", x.count(what), due[what]);
    }
    for (int what : new int[] {-1, 8, HIGH, LOW}) {
      check.due("33: count(" + what + ")", x.count(what), -2);
    }
  }
}
