/** Terms 1 (people, feelings) and promises 1 to 6. */
final class BoundariesOfPeople {
  private static final int NONE = Boundary.NONE, BAD = Boundary.BAD, FULL = Boundary.FULL, NO_SUCH = Boundary.NO_SUCH;
  private static final int LOW = Boundary.LOW, HIGH = Boundary.HIGH;

  private BoundariesOfPeople() {
  }

  static void ask(Boundary b) {
    people(b);
    feelings(b);
    signs(b);
    numbers(b);
    promise1(b);
    promise2(b);
    promise3(b);
    promise4(b);
    promise5(b);
    promise5Rule(b);
    promise6(b);
  }

  private static void people(Boundary b) {
    b.says("Terms 1", "PEOPLE (9 at most, numbered from 0)");
    TwoCamps x = new TwoCamps();
    for (int p = 0; p < 9; p++) {
      b.due("person(1) for the time " + (p + 1), x.person(1), p);
    }
    b.due("person(1), a tenth one", x.person(1), FULL);
    b.due("count(0)", x.count(0), 9);
    b.due("part(8)", x.part(8), 8);
    b.due("part(9)", x.part(9), BAD);
    b.says("Terms 1", "have a PRICE (0 .. 99) for standing aside.");
    TwoCamps y = new TwoCamps();
    b.due("person(0)", y.person(0), 0);
    b.due("person(99)", y.person(99), 1);
    for (int price : new int[] {-1, 100, LOW, HIGH}) {
      b.due("person(" + price + ")", y.person(price), BAD);
      b.due("set(0, 0, " + price + ")", y.set(0, 0, price), NO_SUCH);
    }
    b.due("count(0)", y.count(0), 2);
    b.due("set(0, 0, 99)", y.set(0, 0, 99), 0);
    b.due("set(0, 1, 0)", y.set(0, 1, 0), 99);
    b.due("set(0, 1, 1)", y.set(0, 1, 1), 0);
  }

  /** Nine PEOPLE, each two of them with a FEELING. */
  static TwoCamps all36(int sign, int kinds) {
    TwoCamps x = Check.people(9);
    for (int a = 0; a < 9; a++) {
      for (int c = a + 1; c < 9; c++) {
        x.feel(a, c, sign, 1, kinds);
      }
    }
    return x;
  }

  private static void feelings(Boundary b) {
    b.says("Terms 1", "FEELINGS (36 at most, numbered from 0; one between two PEOPLE at most):");
    TwoCamps x = Check.people(9);
    int number = 0;
    for (int a = 8; a >= 0; a--) {
      for (int c = 0; c < a; c++) {
        b.due("feel(" + a + ", " + c + ", 1, 1, 0)", x.feel(a, c, 1, 1, 0), number);
        b.due("feel(" + c + ", " + a + ", -1, 2, 0)", x.feel(c, a, -1, 2, 0), number);
        number++;
      }
    }
    b.due("count(1)", x.count(1), 36);
    b.due("felt(35, 0)", x.felt(35, 0), 0);
    b.due("felt(35, 3)", x.felt(35, 3), 2);
    b.due("felt(36, 0)", x.felt(36, 0), NO_SUCH);
  }

  private static void signs(Boundary b) {
    TwoCamps x = Check.people(2);
    b.says("Terms 1", "a SIGN (1: they like, -1: they hate each other),");
    for (int sign : new int[] {0, 2, -2, LOW, HIGH}) {
      b.due("feel(0, 1, " + sign + ", 1, 0)", x.feel(0, 1, sign, 1, 0), BAD);
    }
    b.due("count(1)", x.count(1), 0);
    b.due("feel(0, 1, -1, 1, 0)", x.feel(0, 1, -1, 1, 0), 0);
    b.due("peace() of two who hate", x.peace(), 2);
    b.due("feel(0, 1, 1, 1, 0)", x.feel(0, 1, 1, 1, 0), 0);
    b.due("peace() of two who like", x.peace(), 0);
    b.says("Terms 1", "a STRENGTH (1 .. 99),");
    for (int strength : new int[] {0, 100, -1, LOW, HIGH}) {
      b.due("feel(0, 1, 1, " + strength + ", 0)", x.feel(0, 1, 1, strength, 0), BAD);
    }
    b.due("felt(0, 3), as it was", x.felt(0, 3), 1);
    b.due("feel(0, 1, 1, 99, 0)", x.feel(0, 1, 1, 99, 0), 0);
    b.due("felt(0, 3)", x.felt(0, 3), 99);
    b.due("feel(0, 1, 1, 1, 0)", x.feel(0, 1, 1, 1, 0), 0);
    b.due("felt(0, 3)", x.felt(0, 3), 1);
    b.says("Terms 1", "KIN (1, 0), FIXED (1, 0).");
    for (int kinds : new int[] {-1, 4, LOW, HIGH}) {
      b.due("feel(0, 1, 1, 1, " + kinds + ")", x.feel(0, 1, 1, 1, kinds), BAD);
    }
    for (int kinds = 0; kinds < 4; kinds++) {
      b.due("feel(0, 1, 1, 1, " + kinds + ")", x.feel(0, 1, 1, 1, kinds), 0);
      b.due("felt(0, 4) of kinds " + kinds, x.felt(0, 4), kinds / 2);
      b.due("felt(0, 5) of kinds " + kinds, x.felt(0, 5), kinds % 2);
    }
  }

  private static void numbers(Boundary b) {
    TwoCamps x = Check.people(2);
    b.says("Terms 1", "NONE is -1;");
    b.due("NONE", TwoCamps.NONE, -1);
    b.due("between(0, 1) without a FEELING", x.between(0, 1), -1);
    b.says("Terms 1", "NO, where a long is answered, -4611686018427387904.");
    b.due("NO", TwoCamps.NO, -4611686018427387904L);
    b.due("cost(0) without a CAMPING", x.cost(0), -4611686018427387904L);
    b.due("edge(0) without a FEELING", x.edge(0), -4611686018427387904L);
    b.says("Terms 1", "Quotients are cut.");
    Check.camping(x, 3, 0, 0);
    int[][] halves = {{1, 0}, {2, 1}, {3, 1}, {98, 49}, {99, 49}};
    for (int[] half : halves) {
      x.feel(0, 1, -1, half[0], 0);
      b.due("cost(0), WEAK, of a hatred of " + half[0], x.cost(0), half[1] + 3);
    }
    b.says("Terms 1", "BAD (-2: a number is none such or not as told),");
    b.due("BAD", TwoCamps.BAD, -2);
    b.due("force(1), none such", x.force(1), -2);
    b.due("person(100), not as told", x.person(100), -2);
    b.says("Terms 1", "STATE (-3),");
    b.due("STATE", TwoCamps.STATE, -3);
    b.due("back() without AN IMAGE", x.back(), -3);
    b.says("Terms 1", "FULL (-4);");
    b.due("FULL", TwoCamps.FULL, -4);
    b.due("person(0), a tenth one", Check.people(9).person(0), -4);
    b.says("Terms 1", "the host's: -11 nothing where something is asked,");
    b.due("cell(0, 0, 0) of a missing SHEET", x.cell(0, 0, 0), -11);
    b.says("Terms 1", "-12 a place outside,");
    x.sheet(0, 0, 1);
    b.due("cell(0, 1, 0) of a SHEET of 1", x.cell(0, 1, 0), -12);
    b.says("Terms 1", "-13 a thing of another sort or KIND,");
    b.due("feels(0, 2, 0, 1) of a SHEET of bytes", x.feels(0, 2, 0, 1), -13);
    b.due("taken(0, 1) of a WEAK one", x.taken(0, 1), -13);
    b.says("Terms 1", "-14 a size below 0.");
    b.due("sheet(0, 0, -1)", x.sheet(0, 0, -1), -14);
    b.due("sheet(0, 0, LOW)", x.sheet(0, 0, LOW), -14);
  }

  private static void promise1(Boundary b) {
    b.says("Promise 1", "Nobody.");
    TwoCamps x = new TwoCamps();
    int[] counts = {0, 0, 1, 0, 0, 0, 0, 0};
    for (int what = 0; what < counts.length; what++) {
      b.due("count(" + what + ")", x.count(what), counts[what]);
    }
    b.due("set(0, 0, 0)", x.set(0, 0, 0), NO_SUCH);
    b.due("feel(0, 1, 1, 1, 0)", x.feel(0, 1, 1, 1, 0), BAD);
    b.due("felt(0, 0)", x.felt(0, 0), NO_SUCH);
    b.due("between(0, 1)", x.between(0, 1), BAD);
    b.due("camped(0, 0)", x.camped(0, 0), BAD);
    b.due("peace()", x.peace(), 0);
    b.due("ring(-1)", x.ring(-1), NONE);
    b.due("least()", x.least(), NO_SUCH);
    b.due("all(-1)", x.all(-1), 0);
    b.due("all(0)", x.all(0), NONE);
    b.due("together(0, 1)", x.together(0, 1), BAD);
    b.due("aside()", x.aside(), 0);
    b.due("many(4)", x.many(4), 0);
    b.due("part(0)", x.part(0), BAD);
    b.due("doors()", x.doors(), 0);
    b.due("threes()", x.threes(), 0);
    b.due("step(0)", x.step(0), BAD);
    b.due("ends(0)", x.ends(0), 0);
    b.due("meet(0, 1, 0)", x.meet(0, 1, 0), Boundary.NO);
    b.due("bring(0, 1)", x.bring(0, 1), BAD);
    b.due("back()", x.back(), Boundary.STATE);
    b.due("person(0)", x.person(0), 0);
    b.due("count(0) of another one", new TwoCamps().count(0), 0);
  }

  private static void promise2(Boundary b) {
    TwoCamps x = new TwoCamps();
    b.says("Promise 2", "A PERSON: the number.");
    b.due("person(7)", x.person(7), 0);
    b.due("person(7)", x.person(7), 1);
    b.due("set(0, 1, 0), its PRICE", x.set(0, 1, 0), 7);
    b.due("set(1, 1, 0), LED", x.set(1, 1, 0), NONE);
    b.due("part(1), alone", x.part(1), 1);
    b.says("Promise 2", "BAD;");
    for (int price : new int[] {-1, 100, LOW, HIGH}) {
      b.due("person(" + price + ")", x.person(price), BAD);
    }
    b.due("count(0)", x.count(0), 2);
    b.says("Promise 2", "FULL.");
    TwoCamps nine = Check.people(9);
    b.due("person(0), a tenth one", nine.person(0), FULL);
    b.due("person(99), a tenth one", nine.person(99), FULL);
    b.due("count(0)", nine.count(0), 9);
    b.due("person(-1), BAD ahead of FULL", nine.person(-1), BAD);
  }

  private static void promise3(Boundary b) {
    TwoCamps x = Check.people(2);
    b.says("Promise 3", "PRICE (what 0), LED (1; NONE, 0, 1) of a PERSON become v: what was.");
    int[][] rows = {{0, 0, 0, 1}, {0, 0, 99, 0}, {0, 0, 98, 99}, {0, 1, 7, 2}, {1, 0, 0, NONE}, {1, 0, 1, 0}, {1, 0, NONE, 1},
        {1, 0, NONE, NONE}, {1, 1, 1, NONE}, {0, 0, 0, 98}};
    for (int[] r : rows) {
      b.due("set(" + r[0] + ", " + r[1] + ", " + r[2] + ")", x.set(r[0], r[1], r[2]), r[3]);
    }
    b.says("Promise 3", "-5: none such.");
    int[][] none = {{-1, 0, 0}, {2, 0, 0}, {LOW, 0, 0}, {HIGH, 0, 0}, {0, -1, 0}, {0, 2, 0}, {1, -1, 0}, {1, 2, 0}, {0, LOW, 0}, {1, HIGH, 0},
        {0, 0, -1}, {0, 0, 100}, {0, 0, LOW}, {0, 0, HIGH}, {1, 0, -2}, {1, 0, 2}, {1, 0, 9}, {1, 0, LOW}, {1, 0, HIGH}};
    for (int[] r : none) {
      b.due("set(" + r[0] + ", " + r[1] + ", " + r[2] + ")", x.set(r[0], r[1], r[2]), NO_SUCH);
    }
    b.due("set(0, 0, 5), as it was", x.set(0, 0, 5), 0);
    b.due("set(1, 0, 0), as it was", x.set(1, 0, 0), NONE);
    b.due("set(0, 0, 0) of nobody", new TwoCamps().set(0, 0, 0), NO_SUCH);
    b.due("set(0, 8, 0) of the ninth", Check.people(9).set(0, 8, 0), 9);
  }

  private static void promise4(Boundary b) {
    TwoCamps x = Check.people(3);
    b.says("Promise 4", "A FEELING of two PEOPLE (SIGN 1, -1; KIN and FIXED as 2 times KIN and FIXED):"
        + " its number (of one that is told anew, too).");
    b.due("feel(2, 0, -1, 99, 2)", x.feel(2, 0, -1, 99, 2), 0);
    b.due("feel(1, 2, 1, 1, 1)", x.feel(1, 2, 1, 1, 1), 1);
    int[][] rows = {{0, 2, -1, 99, 1, 0}, {1, 2, 1, 1, 0, 1}, {0, 2, 1, 5, 1, 1}};
    row(b, x, 0, rows[0]);
    row(b, x, 1, rows[1]);
    b.due("feel(0, 2, 1, 5, 3), told anew", x.feel(0, 2, 1, 5, 3), 0);
    row(b, x, 0, rows[2]);
    row(b, x, 1, rows[1]);
    b.due("count(1)", x.count(1), 2);
    b.says("Promise 4", "BAD;");
    int[][] bad = {{0, 0, 1, 1, 0}, {2, 2, 1, 1, 0}, {-1, 0, 1, 1, 0}, {0, -1, 1, 1, 0}, {3, 0, 1, 1, 0}, {0, 3, 1, 1, 0}, {LOW, 0, 1, 1, 0},
        {0, HIGH, 1, 1, 0}, {0, 1, 0, 1, 0}, {0, 1, 2, 1, 0}, {0, 1, -2, 1, 0}, {0, 1, 1, 0, 0}, {0, 1, 1, 100, 0}, {0, 1, 1, -99, 0},
        {0, 1, 1, 1, -1}, {0, 1, 1, 1, 4}, {0, 1, LOW, HIGH, LOW}};
    for (int[] r : bad) {
      b.due("feel(" + r[0] + ", " + r[1] + ", " + r[2] + ", " + r[3] + ", " + r[4] + ")", x.feel(r[0], r[1], r[2], r[3], r[4]), BAD);
    }
    b.due("count(1), as it was", x.count(1), 2);
    b.due("feel(0, 0, 1, 1, 0) of one alone", Check.people(1).feel(0, 0, 1, 1, 0), BAD);
    // nine PEOPLE have 36 twos: each of them is told anew then, and none is too many
    b.says("Promise 4", "FULL.");
    TwoCamps all = all36(1, 0);
    b.due("feel(7, 8, -1, 9, 0), one of 36 anew", all.feel(7, 8, -1, 9, 0), 35);
    b.due("feel(0, 1, -1, 9, 0), one of 36 anew", all.feel(0, 1, -1, 9, 0), 0);
    b.due("feel(8, 9, 1, 1, 0), BAD with 36", all.feel(8, 9, 1, 1, 0), BAD);
    b.due("count(1)", all.count(1), 36);
  }

  /** What felt() answers of a FEELING for 0, 1, 2 .. */
  static void row(Boundary b, TwoCamps x, int feeling, int... due) {
    for (int what = 0; what < due.length; what++) {
      b.due("felt(" + feeling + ", " + what + ")", x.felt(feeling, what), due[what]);
    }
  }

  private static void felt(Boundary b, TwoCamps x, int what, int... due) {
    for (int f = 0; f < due.length; f++) {
      b.due("felt(" + f + ", " + what + ")", x.felt(f, what), due[f]);
    }
  }

  private static void promise5(Boundary b) {
    TwoCamps x = Check.told(9, "i-a99k!;b+c1;a-b10!;c+a9k;");
    b.says("Promise 5", "Of a FEELING: 0 its lesser PERSON, 1 the other one,");
    felt(b, x, 0, 0, 1, 0, 0);
    felt(b, x, 1, 8, 2, 1, 2);
    b.says("Promise 5", "2 SIGN,");
    felt(b, x, 2, -1, 1, -1, 1);
    b.says("Promise 5", "3 STRENGTH,");
    felt(b, x, 3, 99, 1, 10, 9);
    b.says("Promise 5", "4 KIN,");
    felt(b, x, 4, 1, 0, 0, 1);
    b.says("Promise 5", "5 FIXED,");
    felt(b, x, 5, 1, 0, 1, 0);
    b.says("Promise 5", "8 in how many BAD THREES.");
    felt(b, x, 8, 0, 1, 1, 1);
    TwoCamps all = all36(-1, 0);
    b.due("felt(0, 8) of nine who hate", all.felt(0, 8), 7);
    b.due("felt(35, 8) of nine who hate", all.felt(35, 8), 7);
    all.feel(0, 1, 1, 1, 0);
    b.due("felt(0, 8), told anew", all.felt(0, 8), 0);
    b.due("felt(1, 8), with it", all.felt(1, 8), 6);
    b.says("Promise 5", "-5: none such.");
    int[][] none = {{-1, 0}, {4, 0}, {36, 8}, {LOW, 0}, {HIGH, 0}, {0, -1}, {0, 9}, {3, LOW}, {3, HIGH}, {4, 9}};
    for (int[] r : none) {
      b.due("felt(" + r[0] + ", " + r[1] + ")", x.felt(r[0], r[1]), NO_SUCH);
    }
    b.due("felt(36, 0) of 36", all.felt(36, 0), NO_SUCH);
    b.due("felt(0, 0) of none", Check.people(9).felt(0, 0), NO_SUCH);
  }

  private static void promise5Rule(Boundary b) {
    TwoCamps x = Check.told(3, "a+b99;b-c1!;");
    b.says("Promise 5", "6 cost,");
    felt(b, x, 6, 99, 1);
    Check.text(x, "cost strength*102-102;let hate*2;");
    Check.text(x, "cost hate-1;let hate-1;");
    b.says("Promise 5", "7 whether it can be WRONG (1, 0),");
    felt(b, x, 7, 1, 0);
    x.force(1);
    felt(b, x, 7, 0, 1);
    x.force(2);
    felt(b, x, 7, 1, 0);
  }

  private static void promise6(Boundary b) {
    TwoCamps x = Check.told(9, "a+b1;i-a2;");
    b.says("Promise 6", "The FEELING of two PEOPLE.");
    int[][] found = {{0, 1, 0}, {1, 0, 0}, {0, 8, 1}, {8, 0, 1}};
    for (int[] r : found) {
      b.due("between(" + r[0] + ", " + r[1] + ")", x.between(r[0], r[1]), r[2]);
    }
    b.due("between(7, 8) of 36", all36(1, 0).between(7, 8), 35);
    b.says("Promise 6", "NONE;");
    b.due("between(1, 8)", x.between(1, 8), NONE);
    b.due("between(8, 1)", x.between(8, 1), NONE);
    b.due("between(0, 7)", x.between(0, 7), NONE);
    b.says("Promise 6", "BAD: PEOPLE (alike, too).");
    int[][] bad = {{0, 0}, {8, 8}, {9, 9}, {-1, -1}, {0, 9}, {9, 0}, {-1, 0}, {0, -1}, {LOW, 0}, {0, LOW}, {HIGH, 0}, {0, HIGH}};
    for (int[] r : bad) {
      b.due("between(" + r[0] + ", " + r[1] + ")", x.between(r[0], r[1]), BAD);
    }
    b.due("between(0, 2) of two", Check.people(2).between(0, 2), BAD);
  }
}
