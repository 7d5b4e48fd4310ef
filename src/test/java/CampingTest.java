/** Promises 11 to 15: campings. */
public final class CampingTest {
  private static final Check check = new Check();
  private static final int LOW = Integer.MIN_VALUE, HIGH = Integer.MAX_VALUE;
  private static final int ASIDE = 9;

  public static void main(String[] args) {
    promise11();
    promise11Full();
    promise12();
    promise13();
    promise13Kinds();
    promise13Weak();
    promise14();
    promise15();
    cameSince();
    check.end("CampingTest");
  }

  private static void promise11() {
    TwoCamps x = Check.people(3);
    Check.sheet(x, 0, 0, 3, 9);
    check.due("11: camping(-1, 0)", x.camping(-1, 0), -2);
    check.due("11: camping(6, 0)", x.camping(6, 0), -2);
    check.due("11: camping(HIGH, 0)", x.camping(HIGH, 0), -2);
    check.due("11: camping(0, -1)", x.camping(0, -1), -2);
    check.due("11: camping(0, 4)", x.camping(0, 4), -2);
    check.due("11: camping(LOW, LOW)", x.camping(LOW, LOW), -2);
    check.due("11: a missing SHEET", x.camping(0, 1), -11);
    check.due("11: BAD ahead of a missing SHEET", x.camping(6, 1), -2);
    int[][] rows = {{}, {0, 0}, {0, 0, 0, 0}, {0, 0, 4}, {0, -1, 0}, {8, 0, 0}, {10, 0, 0}, {0, 0, LOW}};
    for (int[] row : rows) {
      Check.sheet(x, 2, row);
      check.due("11: by " + java.util.Arrays.toString(row), x.camping(0, 2), -2);
    }
    check.due("11: none came", x.count(5), 0);
    for (int kind = 0; kind < 6; kind++) {
      check.due("11: KIND " + kind, x.camping(kind, 0), kind);
      check.due("11: camped(" + kind + ", 0)", x.camped(kind, 0), kind);
    }
    x.cell(0, 0, 1);
    check.due("11: the SHEET's later numbers are not its own", x.move(0, 0, 0), 0);
    check.due("11: the SHEET's later numbers are not its own", x.camped(0, 2), 2);
    x.sheet(1, 0, 3);
    x.cell(1, 1, 256 + 2);
    check.due("11: by bytes", x.camping(0, 1), 6);
    check.due("11: camps of it", x.camped(6, 2), 2);
    TwoCamps nobody = new TwoCamps();
    nobody.sheet(0, 1, 0);
    check.due("11: of nobody", nobody.camping(1, 0), 0);
    check.due("11: of nobody, camps", nobody.camped(0, 2), 0);
    check.due("11: of nobody, COST", nobody.cost(0), 0);
  }

  private static void promise11Full() {
    TwoCamps x = Check.people(1);
    for (int c = 0; c < 10; c++) {
      check.due("11: camping " + c, Check.camping(x, c % 6, 0), c);
    }
    check.due("11: FULL", x.camping(0, 3), -4);
    check.due("11: -11 ahead of FULL", x.camping(0, 0), -11);
    check.due("11: BAD ahead of FULL", Check.camping(x, 0, 7), -2);
    check.due("11: BAD size ahead of FULL", Check.camping(x, 0, 1, 1), -2);
    check.due("11: still ten", x.count(5), 10);
  }

  private static void promise12() {
    TwoCamps x = Check.told(6, "a+b1;b+c2;c-d3;d-e4;e+f5!;a-f6;");
    int[] camps = {4, 2, 4, 3, 2, 2};
    for (int kind = 0; kind < 6; kind++) {
      Check.camping(x, kind, 3, 3, 1, 1, ASIDE, 3);
      check.due("12: KIND of " + kind, x.camped(kind, 0), kind);
      check.due("12: CAMPS that it may have, of " + kind, x.camped(kind, 1), camps[kind]);
      check.due("12: camps with somebody, of " + kind, x.camped(kind, 2), 2);
      // WRONG: b+c, c-d, a-f; none of e, who is aside
      check.due("12: WRONG, of " + kind, x.camped(kind, 3), 3);
      check.due("12: aside, of " + kind, x.camped(kind, 4), 1);
    }
    int all = Check.camping(x, 0, 0, 1, 2, 3, ASIDE, ASIDE);
    check.due("12: all camps", x.camped(all, 2), 4);
    check.due("12: two aside", x.camped(all, 4), 2);
    int none = Check.camping(x, 0, ASIDE, ASIDE, ASIDE, ASIDE, ASIDE, ASIDE);
    check.due("12: no camp", x.camped(none, 2), 0);
    check.due("12: none WRONG", x.camped(none, 3), 0);
    check.due("12: all aside", x.camped(none, 4), 6);
    int[][] bad = {{-1, 0}, {8, 0}, {0, -1}, {0, 5}, {LOW, HIGH}, {HIGH, 1}, {0, LOW}};
    for (int[] c : bad) {
      check.due("12: camped(" + c[0] + ", " + c[1] + ")", x.camped(c[0], c[1]), -2);
    }
  }

  private static void promise13() {
    TwoCamps x = Check.told(4, "a+b10;b-c20!;c+d31;a-d41k;");
    check.due("13: no such", x.cost(0), TwoCamps.NO);
    check.due("13: no such", x.cost(-1), TwoCamps.NO);
    check.due("13: no such", x.cost(HIGH), TwoCamps.NO);
    check.due("13: no such", x.cost(LOW), TwoCamps.NO);
    Check.camping(x, 0, 0, 0, 1, 1);
    check.due("13: none WRONG", x.cost(0), 0);
    Check.camping(x, 0, 0, 1, 1, 0);
    check.due("13: all WRONG, one that can't be", x.cost(1), 10 + 20 + 31 + 41 + 100000);
    Check.camping(x, 0, 2, 1, 1, 2);
    check.due("13: a CAMPING may have four camps", x.cost(2), 100102);
    Check.camping(x, 0, 0, ASIDE, ASIDE, 0);
    check.due("13: two aside", x.cost(3), 41 + 14000);
    Check.text(x, "cost strength*kin*9000;let 1;");
    x.force(1);
    check.due("13: by THE RULE", x.cost(1), 9999);
    check.due("13: by THE RULE", x.cost(3), 9999 + 14000);
    x.feel(0, 3, -1, 1, 2);
    check.due("13: told anew", x.cost(1), 9000);
    check.due("13: one past the last", x.cost(4), TwoCamps.NO);
  }

  private static void promise13Kinds() {
    TwoCamps x = Check.told(5, "a-b9;b+c7!;");
    int[][] rows = {{0, 0, 0, 0, 0}, {0, 0, 1, 2, 3}, {ASIDE, 2, 2, ASIDE, 1}};
    // what is WRONG costs 9, 9 + 100007 and 0; PRICES are 1 .. 5
    long[][] costs = {{9, 9, 12, 7, 9, 9}, {100016, 110016, 100028, 100023, 110016, 110016}, {14000, 24000, 14006, 14006, 10005, 24000}};
    for (int kind = 0; kind < 6; kind++) {
      TwoCamps y = Check.told(5, "a-b9;b+c7!;");
      for (int row = 0; row < rows.length; row++) {
        Check.camping(y, kind, rows[row]);
        check.due("13: COST of row " + row + " as KIND " + kind, y.cost(row), costs[row][kind]);
      }
    }
    for (int kind = 0; kind < 6; kind++) {
      Check.camping(x, kind, 0, 1, 2, ASIDE, 0);
    }
    long[] before = new long[6];
    for (int kind = 0; kind < 6; kind++) {
      before[kind] = x.cost(kind);
    }
    // a elsewhere, b where it is, c in neither of them, d aside, e where it is
    int[] leads = {1, 1, 0, 0, 0};
    for (int p = 0; p < 5; p++) {
      x.set(1, p, leads[p]);
    }
    for (int kind = 0; kind < 6; kind++) {
      check.due("13: LED, KIND " + kind, x.cost(kind) - before[kind], kind == 5 ? 150 : 0);
    }
    x.set(0, 3, 99);
    for (int kind = 0; kind < 6; kind++) {
      check.due("13: a PRICE, KIND " + kind, x.cost(kind) - before[kind], kind == 5 ? 150 : kind == 4 ? 95 : 0);
    }
  }

  private static void promise13Weak() {
    TwoCamps x = Check.told(4, "a-b9;b-c9;c-d1!;a+d9;");
    Check.camping(x, 3, 1, 1, 1, 1);
    // 4 + 4 + 0, each cut by itself
    check.due("13: hatreds cost half", x.cost(0), 8 + 100000 + 3);
    Check.camping(x, 3, 1, 0, 3, 2);
    check.due("13: no half of likings", x.cost(1), 9 + 12);
    Check.camping(x, 2, 1, 1, 1, 1);
    check.due("13: no half as MANY", x.cost(2), 19 + 100000 + 3);
    Check.camping(x, 2, ASIDE, ASIDE, ASIDE, ASIDE);
    check.due("13: MANY without a camp", x.cost(3), 28000);
  }

  private static void promise14() {
    TwoCamps x = Check.told(3, "a+b10;b-c20!;");
    for (int kind = 0; kind < 6; kind++) {
      Check.camping(x, kind, 0, 0, 1);
    }
    x.set(1, 1, 0);
    long[][] more = {{100020, 10, 7000}, {105030, 5010, 7000}, {100020, 13, 7000}, {100010, 13, 7000}, {105030, 5010, 2}, {105080, 5060, 7050}};
    for (int kind = 0; kind < 6; kind++) {
      long before = x.cost(kind);
      check.due("14: c to a and b, KIND " + kind, x.move(kind, 2, 0), new long[] {100020, 100020, 100017, 100007, 100020, 100020}[kind]);
      check.due("14: b to a camp of its own, KIND " + kind, x.move(kind, 1, 3), more[kind][1]);
      check.due("14: b aside, KIND " + kind, x.move(kind, 1, ASIDE), more[kind][2]);
      check.due("14: b stays, KIND " + kind, x.move(kind, 1, 0), 0);
      check.due("14: nothing changes, KIND " + kind, x.cost(kind), before);
    }
    check.due("14: b to c", x.move(0, 1, 1), 10 + 20 + 100000);
    Check.camping(x, 4, ASIDE, 0, 0);
    check.due("14: less", x.move(6, 2, 1), -100020);
    check.due("14: back from aside", x.move(6, 0, 0), -1);
    check.due("14: back from aside, elsewhere", x.move(6, 0, 1), 9);
    int[][] none = {{-1, 0, 0}, {7, 0, 0}, {0, -1, 0}, {0, 3, 0}, {0, 0, -1}, {0, 0, 4}, {0, 0, 8}, {0, 0, 10}, {HIGH, LOW, 9}, {0, HIGH, 0}, {0, 0, LOW}};
    for (int[] c : none) {
      check.due("14: move(" + c[0] + ", " + c[1] + ", " + c[2] + ")", x.move(c[0], c[1], c[2]), TwoCamps.NO);
    }
  }

  private static void promise15() {
    TwoCamps x = Check.people(4);
    int[][] rows = {{0, 0, 1, 9}, {3, 3, 2, 9}, {1, 1, 0, 9}, {0, 1, 1, 9}, {0, 0, 1, 1}, {0, 0, 0, 9}, {9, 9, 1, 0}, {2, 2, 0, 3}, {1, 1, 2, 0}, {0, 0, 9, 1}};
    int[][] alike = {{0, 1}, {0, 2}, {1, 2}, {7, 8}};
    for (int c = 0; c < rows.length; c++) {
      Check.camping(x, c % 6, rows[c]);
    }
    for (int a = 0; a < rows.length; a++) {
      for (int b = 0; b < rows.length; b++) {
        int due = a == b ? 1 : 0;
        for (int[] two : alike) {
          if (two[0] == a && two[1] == b || two[0] == b && two[1] == a) {
            due = 1;
          }
        }
        check.due("15: same(" + a + ", " + b + ")", x.same(a, b), due);
      }
    }
    TwoCamps y = Check.people(2);
    Check.camping(y, 0, ASIDE, 0);
    Check.camping(y, 0, 2, 1);
    Check.camping(y, 0, 1, ASIDE);
    check.due("15: aside is no camp, a", y.same(0, 1), 0);
    check.due("15: aside is no camp, b", y.same(1, 2), 0);
    check.due("15: aside is no camp, both", y.same(0, 2), 0);
    int[][] bad = {{-1, 0}, {0, -1}, {10, 0}, {0, 10}, {HIGH, LOW}, {0, HIGH}, {LOW, 0}};
    for (int[] c : bad) {
      check.due("15: same(" + c[0] + ", " + c[1] + ")", x.same(c[0], c[1]), -2);
    }
  }

  private static void cameSince() {
    TwoCamps x = Check.people(1);
    Check.camping(x, 2, 1);
    Check.camping(x, 5, 0);
    x.person(50);
    x.person(60);
    check.due("12: who came since is in camp 0", x.camped(0, 2), 2);
    check.due("12: who came since is in camp 0", x.camped(1, 2), 1);
    x.feel(1, 2, -1, 8, 0);
    x.feel(0, 1, 1, 4, 0);
    check.due("12: who came since, WRONG", x.camped(0, 3), 2);
    check.due("13: who came since", x.cost(0), 8 + 4 + 6);
    x.set(1, 2, 1);
    check.due("13: who came since, LED", x.cost(1), 8 + 50);
    check.due("14: who came since", x.move(1, 2, 1), -58);
    check.due("15: who came since", x.same(0, 1), 0);
    Check.camping(x, 0, 2, 2, 2);
    check.due("15: who came since", x.same(1, 2), 1);
    Check.camping(x, 0, 2, 2, 0);
    check.due("15: who came since", x.same(1, 3), 0);
    check.due("38: how many it told", x.taken(1, 1), 1);
    check.due("38: how many it told", x.taken(2, 0), 3);
  }
}
