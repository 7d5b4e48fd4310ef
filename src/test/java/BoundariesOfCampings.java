/** Terms 2 (a CAMPING) and promises 11 to 15. */
final class BoundariesOfCampings {
  private static final int BAD = Boundary.BAD, FULL = Boundary.FULL, NOTHING = Boundary.NOTHING, OTHER_SORT = Boundary.OTHER_SORT;
  private static final int LOW = Boundary.LOW, HIGH = Boundary.HIGH, ASIDE = Boundary.ASIDE;
  private static final long NO = Boundary.NO;
  private static final int CAMPING = 0, TWO = 1, MANY = 2, WEAK = 3, SOME = 4, LED = 5;

  private BoundariesOfCampings() {
  }

  static void ask(Boundary b) {
    camps(b);
    wrong(b);
    kinds(b);
    rows(b);
    cost(b);
    costByKind(b);
    costOfWeak(b);
    costOfLed(b);
    room(b);
    promise11(b);
    promise11Full(b);
    promise12(b);
    promise13(b);
    promise14(b);
    promise15(b);
  }

  /** A new object's CAMPING of a KIND, by LINES and a row. */
  private static TwoCamps camped(int kind, String lines, int... row) {
    TwoCamps x = lines.isEmpty() ? Check.people(row.length) : Check.told(row.length, lines);
    Check.camping(x, kind, row);
    return x;
  }

  private static void cost(Boundary b, long due, int kind, String lines, int... row) {
    b.due("COST of KIND " + kind + " " + java.util.Arrays.toString(row) + " of \"" + lines + "\"", camped(kind, lines, row).cost(0), due);
  }

  private static void camps(Boundary b) {
    b.says("Terms 2", "A CAMPING gives each PERSON a camp (0 .. 3), or 9: aside.");
    TwoCamps x = Check.people(1);
    int came = 0;
    for (int camp : new int[] {-1, 0, 1, 2, 3, 4, 8, 9, 10, LOW, HIGH}) {
      boolean isCamp = camp >= 0 && camp <= 3 || camp == 9;
      b.due("camping(0, 3) by " + camp, Check.camping(x, CAMPING, camp), isCamp ? came : BAD);
      came += isCamp ? 1 : 0;
    }
    b.due("count(5)", x.count(5), 5);
    b.due("camped(0, 4), in camp 0", x.camped(0, 4), 0);
    b.due("camped(4, 4), aside", x.camped(4, 4), 1);
  }

  private static void wrong(Boundary b) {
    b.says("Terms 2", "A FEELING is WRONG in it, if they like each other and are in two camps, or hate each other and are in one"
        + " (none of a PERSON who is aside).");
    int[][] rows = {{0, 0, 0, 1}, {0, 1, 0, 0}, {2, 3, 1, 1}, {3, 3, 3, 2}, {3, 3, 3, 3}, {0, 3, 0, 3}, {9, 0, 0, 0}, {0, 9, 0, 0}, {0, 0, 9, 0},
        {0, 0, 0, 9}, {9, 9, 9, 9}, {0, 0, 9, 9}, {9, 9, 0, 0}, {0, 9, 9, 0}};
    int[] due = {0, 2, 2, 0, 1, 1, 1, 1, 0, 0, 0, 0, 1, 0};
    for (int r = 0; r < rows.length; r++) {
      // a likes b, c hates d
      TwoCamps x = camped(CAMPING, "a+b1;c-d1;", rows[r]);
      b.due("camped(0, 3) of " + java.util.Arrays.toString(rows[r]), x.camped(0, 3), due[r]);
    }
  }

  private static void kinds(Boundary b) {
    b.says("Terms 2", "CAMPINGS (10 at most, numbered from 0)");
    TwoCamps x = Check.people(1);
    for (int c = 0; c < 10; c++) {
      b.due("camping(0, 3)", Check.camping(x, CAMPING, 0), c);
    }
    b.due("camping(0, 3), an eleventh", x.camping(CAMPING, 3), FULL);
    b.due("count(5)", x.count(5), 10);
    b.due("cost(9)", x.cost(9), 0);
    b.due("cost(10)", x.cost(10), NO);
    b.says("Terms 2", "have a KIND: 0 CAMPING, 1 TWO under CAMPING, 2 MANY under CAMPING, 3 WEAK under MANY, 4 SOME under TWO, 5 LED under TWO;");
    TwoCamps y = Check.people(2);
    b.due("camping(-1, 3)", Check.camping(y, -1, 0, 0), BAD);
    b.due("camping(6, 3)", Check.camping(y, 6, 0, 0), BAD);
    String[] above = {"0", "10", "20", "320", "410", "510"};
    for (int kind = 0; kind < 6; kind++) {
      b.due("camping(" + kind + ", 3)", Check.camping(y, kind, 0, 0), kind);
      b.due("camped(" + kind + ", 0)", y.camped(kind, 0), kind);
      for (int k = 0; k < 6; k++) {
        b.due("taken(" + kind + ", " + k + ")", y.taken(kind, k), above[kind].indexOf('0' + k) >= 0 ? 2 : OTHER_SORT);
      }
    }
  }

  private static void rows(Boundary b) {
    b.says("Terms 2", "a row of camps, of as many PEOPLE as there are then (who came since are in camp 0).");
    TwoCamps x = Check.people(2);
    b.due("camping(0, 3) by one of 2 PEOPLE", Check.camping(x, CAMPING, 1), BAD);
    b.due("camping(0, 3) by three of 2 PEOPLE", Check.camping(x, CAMPING, 1, 1, 1), BAD);
    b.due("camping(0, 3) by two of 2 PEOPLE", Check.camping(x, CAMPING, 1, 1), 0);
    b.due("camped(0, 2)", x.camped(0, 2), 1);
    x.person(0);
    b.due("camped(0, 2), one came since", x.camped(0, 2), 2);
    b.due("camping(0, 3) by two of 3 PEOPLE", Check.camping(x, CAMPING, 1, 1), BAD);
    x.feel(0, 2, 1, 7, 0);
    b.due("cost(0), one came since", x.cost(0), 7);
    b.due("move(0, 2, 1)", x.move(0, 2, 1), -7);
    b.due("move(0, 2, 0)", x.move(0, 2, 0), 0);
    TwoCamps nobody = new TwoCamps();
    b.due("camping(1, 3) of nobody", Check.camping(nobody, TWO), 0);
    for (int p = 0; p < 9; p++) {
      nobody.person(p);
    }
    nobody.feel(7, 8, -1, 5, 0);
    b.due("camped(0, 2), nine came since", nobody.camped(0, 2), 1);
    b.due("cost(0), nine came since", nobody.cost(0), 5);
  }

  private static void cost(Boundary b) {
    b.says("Terms 2", "COST of a CAMPING (a long): of each WRONG FEELING its cost by THE RULE;");
    cost(b, 0, CAMPING, "a+b99;b-c98;", 0, 0, 1);
    cost(b, 99, CAMPING, "a+b99;b-c98;", 0, 1, 0);
    cost(b, 197, CAMPING, "a+b99;b-c98;", 0, 1, 1);
    cost(b, 0, CAMPING, "a+b99;b-c98;", 0, 0, 3);
    TwoCamps x = BoundariesOfPeople.all36(-1, 0);
    Check.camping(x, CAMPING, 0, 0, 0, 0, 0, 0, 0, 0, 0);
    b.due("cost(0) of 36 who are WRONG", x.cost(0), 36);
    Check.text(x, "cost 9999+1;let 1;");
    x.force(1);
    b.due("cost(0) by another RULE", x.cost(0), 36 * 9999);
    b.says("Terms 2", "100000 more for each that is WRONG and can't be;");
    cost(b, 100099, CAMPING, "a+b99!;", 0, 1);
    cost(b, 0, CAMPING, "a+b99!;", 0, 0);
    cost(b, 200003, CAMPING, "a+b1!;b-c2!;", 0, 1, 1);
    Check.text(x, "cost 9999+1;let 0;");
    x.force(2);
    b.due("cost(0) of 36 who can't be", x.cost(0), 36 * 109999);
    Check.text(x, "cost -1;let 0;");
    x.force(3);
    b.due("cost(0) of 36 who can't be, for nothing", x.cost(0), 3600000);
    b.says("Terms 2", "by KIND: CAMPING: 7000 more for each who is aside.");
    cost(b, 7000, CAMPING, "", ASIDE);
    cost(b, 0, CAMPING, "", 3);
    cost(b, 63000, CAMPING, "a-b1;", ASIDE, ASIDE, ASIDE, ASIDE, ASIDE, ASIDE, ASIDE, ASIDE, ASIDE);
    cost(b, 14001, CAMPING, "a-d1;b+c1;", 3, ASIDE, ASIDE, 3);
  }

  private static void costByKind(Boundary b) {
    b.says("Terms 2", "TWO: as a CAMPING, and 5000 more for each PERSON in camp 2 or 3.");
    cost(b, 0, TWO, "", 0, 1, 0, 1);
    cost(b, 5000, TWO, "", 0, 1, 2);
    cost(b, 5000, TWO, "", 3, 1, 0);
    cost(b, 45000, TWO, "", 2, 3, 2, 3, 2, 3, 2, 3, 2);
    cost(b, 12000, TWO, "", ASIDE, 2);
    cost(b, 105008, TWO, "a+b8!;", 1, 2);
    b.says("Terms 2", "MANY: as a CAMPING, and 3 more for each camp in which there is somebody.");
    cost(b, 0, MANY, "");
    cost(b, 3, MANY, "", 3, 3, 3, 3, 3, 3, 3, 3, 3);
    cost(b, 6, MANY, "", 2, 1, 1, 2);
    cost(b, 12, MANY, "", 0, 1, 2, 3);
    cost(b, 63000, MANY, "", ASIDE, ASIDE, ASIDE, ASIDE, ASIDE, ASIDE, ASIDE, ASIDE, ASIDE);
    cost(b, 7003, MANY, "", ASIDE, 0);
    cost(b, 100014, MANY, "a+b8!;", 1, 2);
    b.says("Terms 2", "SOME: as a TWO, but PRICES of those aside in place of 7000 each.");
    cost(b, 1, SOME, "", ASIDE, 0);
    cost(b, 45, SOME, "", ASIDE, ASIDE, ASIDE, ASIDE, ASIDE, ASIDE, ASIDE, ASIDE, ASIDE);
    cost(b, 10002, SOME, "", 2, ASIDE, 3);
    cost(b, 100008, SOME, "a-b8!;", 1, 1);
    TwoCamps x = camped(SOME, "", ASIDE);
    x.set(0, 0, 0);
    b.due("cost(0) of PRICE 0", x.cost(0), 0);
    x.set(0, 0, 99);
    b.due("cost(0) of PRICE 99", x.cost(0), 99);
  }

  private static void costOfWeak(Boundary b) {
    b.says("Terms 2", "WEAK: as a MANY, but hatreds that are WRONG cost half (cut).");
    cost(b, 3, WEAK, "a-b1;", 0, 0);
    cost(b, 4, WEAK, "a-b2;", 0, 0);
    cost(b, 4, WEAK, "a-b3;", 0, 0);
    cost(b, 52, WEAK, "a-b99;", 0, 0);
    // each is cut by itself
    cost(b, 3, WEAK, "a-b1;b-c1;c-a1;", 0, 0, 0);
    cost(b, 6, WEAK, "a-b3;b-c3;c-a3;", 0, 0, 0);
    cost(b, 105, WEAK, "a+b99;", 0, 1);
    cost(b, 6, WEAK, "a-b99;", 0, 1);
    cost(b, 7003, WEAK, "a-b99;", 0, ASIDE);
    cost(b, 100052, WEAK, "a-b99!;", 0, 0);
    cost(b, 100105, WEAK, "a+b99!;", 0, 1);
    TwoCamps x = camped(WEAK, "a-b1;", 3, 3);
    Check.text(x, "cost 9999;let 0;");
    x.force(1);
    b.due("cost(0) by another RULE", x.cost(0), 4999 + 100000 + 3);
    b.due("move(0, 0, 2)", x.move(0, 0, 2), -4999 - 100000 + 3);
  }

  private static void costOfLed(Boundary b) {
    b.says("Terms 2", "LED: as a TWO, and 50 more for each PERSON who is LED elsewhere than it is"
        + " (LED: told a camp 0, 1, or none: NONE, at first).");
    int[] camps = {0, 1, 2, 3, ASIDE};
    int[] asTwo = {0, 0, 5000, 5000, 7000};
    for (int c = 0; c < camps.length; c++) {
      TwoCamps x = camped(LED, "", camps[c]);
      b.due("cost(0) in camp " + camps[c] + ", LED by none", x.cost(0), asTwo[c]);
      for (int led = 0; led < 2; led++) {
        x.set(1, 0, led);
        b.due("cost(0) in camp " + camps[c] + ", LED to " + led, x.cost(0), asTwo[c] + (camps[c] == led ? 0 : 50));
      }
      x.set(1, 0, -1);
      b.due("cost(0) in camp " + camps[c] + ", LED by none again", x.cost(0), asTwo[c]);
    }
    TwoCamps all = Check.people(9);
    for (int kind = 0; kind < 6; kind++) {
      Check.camping(all, kind, 0, 0, 0, 0, 0, 0, 0, 0, 0);
    }
    for (int p = 0; p < 9; p++) {
      all.set(1, p, 1);
    }
    int[] due = {0, 0, 3, 3, 0, 450};
    for (int kind = 0; kind < 6; kind++) {
      b.due("cost(" + kind + ") of nine LED to camp 1", all.cost(kind), due[kind]);
    }
  }

  private static void room(Boundary b) {
    b.says("Terms 2", "CAMPS that it may have: CAMPING 4; TWO 2; MANY as a CAMPING; WEAK 1 less than a MANY; SOME as a TWO; LED as a TWO.");
    int[] due = {4, 2, 4, 3, 2, 2};
    for (int kind = 0; kind < 6; kind++) {
      b.due("camped(0, 1) of KIND " + kind, camped(kind, "", 0).camped(0, 1), due[kind]);
      // it may, and has more at a COST
      b.due("camped(0, 2) of KIND " + kind, camped(kind, "", 0, 1, 2, 3).camped(0, 2), 4);
    }
  }

  private static void promise11(Boundary b) {
    b.says("Promise 11", "A CAMPING of a KIND by a SHEET (camps): its number.");
    for (int sort = 0; sort < 3; sort++) {
      TwoCamps x = Check.people(9);
      x.sheet(sort, sort, 9);
      x.cell(sort, 8, 9);
      for (int kind = 0; kind < 6; kind++) {
        b.due("camping(" + kind + ", " + sort + ")", x.camping(kind, sort), kind);
        b.due("camped(" + kind + ", 4)", x.camped(kind, 4), 1);
      }
      x.cell(sort, 0, 1);
      x.sheet(sort, -1, 0);
      b.due("camped(0, 2), the SHEET is another one", x.camped(0, 2), 1);
    }
    TwoCamps nobody = new TwoCamps();
    nobody.sheet(3, 0, 0);
    b.due("camping(5, 3) of nobody", nobody.camping(5, 3), 0);
    TwoCamps x = Check.people(2);
    b.says("Promise 11", "BAD: KIND,");
    Check.sheet(x, 0, 0, 0);
    for (int kind : new int[] {-1, 6, LOW, HIGH}) {
      b.due("camping(" + kind + ", 0)", x.camping(kind, 0), BAD);
    }
    b.says("Promise 11", "SHEET,");
    for (int sheet : new int[] {-1, 4, LOW, HIGH}) {
      b.due("camping(0, " + sheet + ")", x.camping(CAMPING, sheet), BAD);
    }
    b.says("Promise 11", "another size than PEOPLE,");
    int[][] sizes = {{}, {0}, {0, 0, 0}, new int[9], new int[40]};
    for (int[] row : sizes) {
      b.due("camping(0, 3) of size " + row.length + " for 2 PEOPLE", Check.camping(x, CAMPING, row), BAD);
    }
    b.due("camping(0, 3) of size 1 for nobody", Check.camping(new TwoCamps(), CAMPING, 0), BAD);
    b.says("Promise 11", "a number is no camp;");
    for (int camp : new int[] {-1, 4, 8, 10, LOW, HIGH}) {
      b.due("camping(0, 3) by " + camp + ", 0", Check.camping(x, CAMPING, camp, 0), BAD);
      b.due("camping(0, 3) by 0, " + camp, Check.camping(x, CAMPING, 0, camp), BAD);
    }
    b.due("count(5)", x.count(5), 0);
  }

  private static void promise11Full(Boundary b) {
    TwoCamps x = Check.people(1);
    b.says("Promise 11", "-11;");
    for (int sheet = 0; sheet < 4; sheet++) {
      b.due("camping(0, " + sheet + ") of a missing SHEET", x.camping(CAMPING, sheet), NOTHING);
    }
    b.due("camping(0, 0) of nobody, a missing SHEET", new TwoCamps().camping(CAMPING, 0), NOTHING);
    b.due("camping(6, 0), BAD ahead of -11", x.camping(6, 0), BAD);
    x.sheet(0, 0, 1);
    b.due("camping(0, 0)", x.camping(CAMPING, 0), 0);
    x.sheet(0, -1, 1);
    b.due("camping(0, 0), missing again", x.camping(CAMPING, 0), NOTHING);
    b.says("Promise 11", "FULL.");
    for (int c = 1; c < 10; c++) {
      b.due("camping(0, 3)", Check.camping(x, CAMPING, 0), c);
    }
    for (int kind = 0; kind < 6; kind++) {
      b.due("camping(" + kind + ", 3), an eleventh", x.camping(kind, 3), FULL);
    }
    b.due("camping(0, 0), -11 ahead of FULL", x.camping(CAMPING, 0), NOTHING);
    b.due("camping(6, 3), BAD ahead of FULL", x.camping(6, 3), BAD);
    b.due("camping(0, 4), BAD ahead of FULL", x.camping(CAMPING, 4), BAD);
    b.due("camping(0, 3) by 4, BAD ahead of FULL", Check.camping(x, CAMPING, 4), BAD);
    b.due("camping(0, 3) of size 2, BAD ahead of FULL", Check.camping(x, CAMPING, 0, 0), BAD);
    b.due("count(5)", x.count(5), 10);
  }

  private static void promise12(Boundary b) {
    int[][] rows = {{0, 0, 0, 0, 0, 0, 0, 0, 0}, {0, 1, 2, 3, 0, 1, 2, 3, 9}, {9, 9, 9, 9, 9, 9, 9, 9, 9}, {9, 0, 0, 0, 0, 0, 0, 0, 3}};
    TwoCamps x = BoundariesOfPeople.all36(-1, 0);
    for (int c = 0; c < rows.length; c++) {
      Check.camping(x, c == 1 ? WEAK : c, rows[c]);
    }
    b.says("Promise 12", "Of a CAMPING: 0 KIND,");
    camped(b, x, 0, 0, 3, 2, 3);
    b.says("Promise 12", "1 CAMPS that it may have,");
    camped(b, x, 1, 4, 3, 4, 3);
    b.says("Promise 12", "2 camps in which there is somebody,");
    camped(b, x, 2, 1, 4, 0, 2);
    b.says("Promise 12", "3 how many FEELINGS are WRONG,");
    camped(b, x, 3, 36, 4, 0, 21);
    b.says("Promise 12", "4 how many are aside.");
    camped(b, x, 4, 0, 1, 9, 1);
    b.says("Promise 12", "BAD.");
    int[][] bad = {{-1, 0}, {4, 0}, {10, 0}, {LOW, 0}, {HIGH, 0}, {0, -1}, {0, 5}, {0, LOW}, {0, HIGH}};
    for (int[] r : bad) {
      b.due("camped(" + r[0] + ", " + r[1] + ")", x.camped(r[0], r[1]), BAD);
    }
    b.due("camped(0, 0) of none", Check.people(9).camped(0, 0), BAD);
  }

  private static void camped(Boundary b, TwoCamps x, int what, int... due) {
    for (int c = 0; c < due.length; c++) {
      b.due("camped(" + c + ", " + what + ")", x.camped(c, what), due[c]);
    }
  }

  private static void promise13(Boundary b) {
    b.says("Promise 13", "COST of a CAMPING.");
    TwoCamps x = Check.told(4, "a+b10;b-c21;c-d31!;");
    for (int kind = 0; kind < 6; kind++) {
      Check.camping(x, kind, 0, 1, 1, 1);
    }
    x.set(1, 0, 1);
    long[] due = {100062, 100062, 100068, 10 + 10 + 100015 + 6, 100062, 100112};
    for (int kind = 0; kind < 6; kind++) {
      b.due("cost(" + kind + ")", x.cost(kind), due[kind]);
    }
    b.says("Promise 13", "NO: none such.");
    for (int camping : new int[] {-1, 6, 10, LOW, HIGH}) {
      b.due("cost(" + camping + ")", x.cost(camping), NO);
    }
    b.due("cost(0) of none", new TwoCamps().cost(0), NO);
  }

  private static void promise14(Boundary b) {
    TwoCamps x = Check.told(3, "a+b10;b-c20!;");
    Check.camping(x, CAMPING, 0, 0, 1);
    Check.camping(x, LED, 0, 0, 1);
    b.says("Promise 14", "By how much COST would be more, if a PERSON went to a camp (0 .. 3, 9);");
    int[][] rows = {{0, 1, 0, 0}, {0, 1, 1, 100030}, {0, 1, 2, 10}, {0, 1, 3, 10}, {0, 1, 9, 7000}, {1, 1, 3, 5010}, {1, 2, 0, 100020}, {1, 2, 2, 5000}};
    for (int[] r : rows) {
      b.due("move(" + r[0] + ", " + r[1] + ", " + r[2] + ")", x.move(r[0], r[1], r[2]), r[3]);
    }
    Check.camping(x, CAMPING, 0, 1, 1);
    b.due("move(2, 1, 0), less", x.move(2, 1, 0), -100030);
    Check.camping(x, CAMPING, ASIDE, 1, 3);
    b.due("move(3, 0, 1), from aside", x.move(3, 0, 1), -7000);
    b.due("move(3, 0, 9), from aside to aside", x.move(3, 0, ASIDE), 0);
    b.says("Promise 14", "nothing changes.");
    b.due("cost(0)", x.cost(0), 0);
    b.due("camped(0, 2)", x.camped(0, 2), 2);
    b.due("cost(2)", x.cost(2), 100030);
    b.due("camped(3, 4)", x.camped(3, 4), 1);
    b.due("move(0, 1, 1), again", x.move(0, 1, 1), 100030);
    b.due("taken(0, 0)", x.taken(0, 0), 3);
    b.due("count(5)", x.count(5), 4);
    b.says("Promise 14", "NO: none such.");
    int[][] none = {{-1, 0, 0}, {4, 0, 0}, {LOW, 0, 0}, {HIGH, 0, 0}, {0, -1, 0}, {0, 3, 0}, {0, LOW, 0}, {0, HIGH, 0}, {0, 0, -1}, {0, 0, 4},
        {0, 0, 8}, {0, 0, 10}, {0, 0, LOW}, {0, 0, HIGH}, {4, 3, 4}};
    for (int[] r : none) {
      b.due("move(" + r[0] + ", " + r[1] + ", " + r[2] + ")", x.move(r[0], r[1], r[2]), NO);
    }
    b.due("move(0, 0, 0) of none", Check.people(1).move(0, 0, 0), NO);
  }

  private static void promise15(Boundary b) {
    b.says("Promise 15", "Whether two CAMPINGS are the same, but for what camps are called (1, 0).");
    int[][][] same = {{{}, {}}, {{0}, {3}}, {{9}, {9}}, {{0, 1, 2, 3}, {3, 2, 1, 0}}, {{0, 1, 2, 3, 9}, {1, 2, 3, 0, 9}}, {{0, 0, 1}, {2, 2, 0}},
        {{9, 9, 1}, {9, 9, 0}}};
    int[][][] unlike = {{{0}, {9}}, {{0, 0}, {0, 1}}, {{0, 1}, {1, 1}}, {{9, 9}, {0, 0}}, {{9, 0}, {0, 9}}, {{9, 0}, {1, 0}}, {{0, 0, 1}, {0, 1, 1}},
        {{0, 1, 2, 3}, {0, 1, 2, 2}}, {{0, 1, 0}, {0, 1, 2}}};
    for (int[][] two : same) {
      same(b, two[0], two[1], 1);
    }
    for (int[][] two : unlike) {
      same(b, two[0], two[1], 0);
    }
    TwoCamps x = Check.people(1);
    Check.camping(x, CAMPING, 1);
    x.person(0);
    Check.camping(x, LED, 3, 2);
    Check.camping(x, MANY, 2, 2);
    b.due("same(0, 1), one came since", x.same(0, 1), 1);
    b.due("same(0, 2), one came since", x.same(0, 2), 0);
    b.says("Promise 15", "BAD.");
    int[][] bad = {{-1, 0}, {0, -1}, {3, 0}, {0, 3}, {3, 3}, {-1, -1}, {LOW, 0}, {0, HIGH}};
    for (int[] r : bad) {
      b.due("same(" + r[0] + ", " + r[1] + ")", x.same(r[0], r[1]), BAD);
    }
    b.due("same(0, 0) of none", new TwoCamps().same(0, 0), BAD);
  }

  private static void same(Boundary b, int[] one, int[] other, int due) {
    TwoCamps x = Check.people(one.length);
    Check.camping(x, CAMPING, one);
    Check.camping(x, WEAK, other);
    String two = java.util.Arrays.toString(one) + " and " + java.util.Arrays.toString(other);
    b.due("same(0, 1) of " + two, x.same(0, 1), due);
    b.due("same(1, 0) of " + two, x.same(1, 0), due);
    b.due("same(0, 0) of " + two, x.same(0, 0), 1);
  }
}
