/** Terms 3 (PARTS to ENDS) and promises 23 to 27. */
final class BoundariesOfParts {
  private static final int NONE = Boundary.NONE, BAD = Boundary.BAD, LOW = Boundary.LOW, HIGH = Boundary.HIGH;
  private static final String CHAIN_OF_8 = "a+b1;b-c1;c+d1;d+e1!;e+f1;f+g1;g-h1;h+i1k;";

  private BoundariesOfParts() {
  }

  static void ask(Boundary b) {
    parts(b);
    doors(b);
    threes(b);
    step(b);
    ends(b);
    promise23(b);
    promise24(b);
    promise25(b);
    promise26(b);
    promise27(b);
  }

  private static void parts(Boundary b, int people, String lines, int... due) {
    TwoCamps x = BoundariesOfPeace.told(people, lines);
    int parts = 0;
    for (int p = 0; p < people; p++) {
      b.due("part(" + p + ") of \"" + lines + "\"", x.part(p), due[p]);
      parts += due[p] == p ? 1 : 0;
    }
    b.due("count(7) of \"" + lines + "\"", x.count(7), parts);
  }

  private static void parts(Boundary b) {
    b.says("Terms 3", "PARTS: PEOPLE who hang together by FEELINGS; a PART is told by its least PERSON.");
    parts(b, 0, "");
    parts(b, 1, "", 0);
    parts(b, 9, "", 0, 1, 2, 3, 4, 5, 6, 7, 8);
    parts(b, 9, CHAIN_OF_8, 0, 0, 0, 0, 0, 0, 0, 0, 0);
    parts(b, 9, "i-h1;h-g1;g-f1;f-e1;e-d1;d-c1;c-b1;b-a1;", 0, 0, 0, 0, 0, 0, 0, 0, 0);
    parts(b, 9, "i+b1;h-c1!;c+d1k;", 0, 1, 2, 2, 4, 5, 6, 2, 1);
    parts(b, 4, "d-b1;", 0, 1, 2, 1);
    parts(b, 6, "a+f1;b+e1;c+d1;f+e1;", 0, 0, 2, 2, 0, 0);
  }

  private static void doors(Boundary b, int due, int people, String lines) {
    b.due("doors() of " + people + " PEOPLE, \"" + lines + "\"", BoundariesOfPeace.told(people, lines).doors(), due);
  }

  private static void doors(Boundary b) {
    b.says("Terms 3", "A DOOR: a PERSON without whom its PART would fall into more (of the others).");
    doors(b, 0, 0, "");
    doors(b, 0, 1, "");
    doors(b, 0, 9, "");
    // without one of two the PART is one of one
    doors(b, 0, 2, "a+b1;");
    doors(b, 0, 3, "b+c1;");
    doors(b, 2, 3, "a+b1;b-c1;");
    doors(b, 1, 3, "b+a1;a-c1;");
    doors(b, 0, 3, "a+b1;b-c1;c+a1;");
    doors(b, 254, 9, CHAIN_OF_8);
    doors(b, 0, 9, CHAIN_OF_8 + "i+a1;");
    doors(b, 256, 9, "a+i1;b+i1;c+i1;d+i1;e+i1;f+i1;g+i1;h+i1;");
    doors(b, 4, 5, "a+b1;b+c1;c+a1;c+d1;d+e1;e+c1;");
    doors(b, 2 | 16, 6, "a+b1;b+c1;d+e1;e+f1;");
    b.due("doors() of 36 FEELINGS", BoundariesOfPeople.all36(1, 0).doors(), 0);
  }

  private static void threes(Boundary b) {
    b.says("Terms 3", "A THREE: three PEOPLE with a FEELING between each two; it is BAD with an odd number of hatreds.");
    String[] rows = {"a+b1;b+c1;c+a1;", "a-b1;b+c1;c+a1;", "a-b1;b-c1;c+a1;", "a-b1;b-c1;c-a1;", "a-b1;b-c1;", "a-b1!;b-c1!;c-a1!;"};
    int[] due = {0, 1, 0, 1, 0, 1};
    for (int r = 0; r < rows.length; r++) {
      TwoCamps x = Check.told(3, rows[r]);
      b.due("threes() of \"" + rows[r] + "\"", x.threes(), due[r]);
      for (int f = 0; f < x.count(1); f++) {
        b.due("felt(" + f + ", 8) of \"" + rows[r] + "\"", x.felt(f, 8), due[r]);
      }
    }
    // a ring of four with one hatred has no THREE
    b.due("threes() of a ring of four", Check.told(4, "a-b1;b+c1;c+d1;d+a1;").threes(), 0);
  }

  private static void step(Boundary b) {
    b.says("Terms 3", "A STEP: of a PERSON's FEELINGS that can be WRONG the one that is in the most BAD THREES (1 at least;"
        + " of like ones the least FEELING) turns its SIGN.");
    step(b, "a-b1;b-c1;c-a1;", 0, 0);
    step(b, "a-b1;b-c1;c-a1;", 1, 0);
    step(b, "a-b1;b-c1;c-a1;", 2, 1);
    step(b, "c-a1;b-c1;a-b1;", 0, 0);
    step(b, "a-b1!;b-c1;c-a1;", 0, 2);
    step(b, "a-b1!;b-c1;c-a1;", 1, 1);
    step(b, "a-b1!;b-c1;c-a1!;", 0, NONE);
    step(b, "a-b1!;b-c1;c-a1!;", 2, 1);
    step(b, "a+b1;b+c1;c+a1;", 0, NONE);
    step(b, "a-b1;b-c1;", 1, NONE);
    // c + d is in no BAD THREE, a - b in two, all others in one
    String two = "c+d1;b+c1;a+c1;b+d1;a+d1;a-b1;";
    step(b, two, 0, 5);
    step(b, two, 1, 5);
    step(b, two, 2, 1);
    step(b, two, 3, 3);
    // the one in two can't be WRONG: of those in one the least
    step(b, "c+d1;b+c1;a+c1;b+d1;a+d1;a-b1!;", 0, 2);
    b.says("Terms 3", "A ROUND: a STEP of each PERSON by numbers.");
    // a's STEP, a FEELING of its, leaves nothing for b and c
    round(b, "b-c1;a-b1;a-c1;", -1, 1, -1);
    round(b, "a-b1!;b-c1;c-a1!;", -1, 1, -1);
    // b's STEP comes ahead of c's, which would take c - d
    round(b, "c-d1;b-d1;b-c1;", -1, 1, -1);
    // a's STEP takes d + a; a THREE of FIXED ones stays BAD
    round(b, "a-b1!;b+c1!;c+a1!;b+d1;d+a1;", -1, 1, 1, 1, -1);
  }

  private static void step(Boundary b, String lines, int person, int due) {
    TwoCamps x = Check.told(4, lines);
    int sign = due == NONE ? 0 : x.felt(due, 2);
    int hatreds = x.count(6);
    b.due("step(" + person + ") of \"" + lines + "\"", x.step(person), due);
    b.due("count(6) behind it", x.count(6), hatreds + sign);
    if (due != NONE) {
      b.due("felt(" + due + ", 2) behind it", x.felt(due, 2), -sign);
    }
  }

  /** The SIGNS behind a ROUND that is gone step by step; ENDS must tell the same. */
  private static void round(Boundary b, String lines, int... signs) {
    TwoCamps x = Check.told(4, lines);
    b.due("ends(1) of \"" + lines + "\"", x.ends(1), 1);
    for (int p = 0; p < 4; p++) {
      x.step(p);
    }
    for (int f = 0; f < signs.length; f++) {
      b.due("felt(" + f + ", 2) behind a ROUND of \"" + lines + "\"", x.felt(f, 2), signs[f]);
    }
    b.due("ends(0) behind it", x.ends(0), 0);
  }

  /** A ROUND: how many turned. */
  private static int turns(TwoCamps x) {
    int turned = 0;
    for (int p = 0; p < x.count(0); p++) {
      turned += x.step(p) >= 0 ? 1 : 0;
    }
    return turned;
  }

  private static void ends(Boundary b) {
    b.says("Terms 3", "ENDS: after how many ROUNDS (0 .. n) first no FEELING turns in the next one; nothing changes.");
    b.due("ends(0) of nobody", new TwoCamps().ends(0), 0);
    b.due("ends(0) without a FEELING", Check.people(9).ends(0), 0);
    b.due("ends(0) without a BAD THREE", Check.told(3, "a-b1;b-c1;c+a1;").ends(0), 0);
    b.due("ends(0), none can turn", Check.told(3, "a-b1!;b-c1!;c-a1!;").ends(0), 0);
    TwoCamps one = Check.told(3, "a-b1;b-c1;c-a1;");
    b.due("ends(0), one ROUND is needed", one.ends(0), NONE);
    b.due("ends(1), one ROUND is needed", one.ends(1), 1);
    b.due("threes(), nothing changes", one.threes(), 1);
    b.due("count(6), nothing changes", one.count(6), 3);
    // found by a search; gone through below step by step
    twenty(b, "c-d1!;c-f1!;b-c1;b-g1;a-g1!;d-g1;f-g1!;b-f1;b-d1!;b-e1;a+c1;a-d1;e-g1;d-f1;a-f1;d-e1!;a-b1!;a+e1;");
    String more = "c-f1;f-g1!;d+e1!;a-f1!;b+c1!;b+f1;e+f1;c+e1!;b+d1;d-g1;a+c1;b-g1;e+g1;b-e1;c-d1;a+b1;a+d1;a-e1;c-g1;a-g1;";
    TwoCamps x = Check.told(7, more);
    b.due("ends(20), 21 ROUNDS are needed", x.ends(20), NONE);
    turns(x);
    b.due("ends(20), a ROUND later", x.ends(20), 20);
    b.due("ends(19), a ROUND later", x.ends(19), NONE);
  }

  private static void twenty(Boundary b, String lines) {
    TwoCamps x = Check.told(7, lines);
    int hatreds = x.count(6);
    for (int left = 20; left > 0; left--) {
      b.due("ends(20), " + left + " ROUNDS are needed", x.ends(20), left);
      b.due("ends(" + left + "), " + left + " ROUNDS are needed", x.ends(left), left);
      b.due("ends(" + (left - 1) + "), " + left + " ROUNDS are needed", x.ends(left - 1), NONE);
      if (left == 20) {
        b.due("count(6), nothing changes", x.count(6), hatreds);
      }
      b.due("some turn, with " + left + " ROUNDS needed", turns(x) > 0 ? 1 : 0, 1);
    }
    b.due("ends(0), no ROUND is needed", x.ends(0), 0);
    b.due("none turns any more", turns(x), 0);
  }

  private static void promise23(Boundary b) {
    b.says("Promise 23", "The PART of a PERSON.");
    parts(b, 9, "i-h1;d+h1;", 0, 1, 2, 3, 4, 5, 6, 3, 3);
    parts(b, 1, "", 0);
    TwoCamps x = Check.told(9, "i-h1;d+h1;");
    x.feel(0, 8, 1, 1, 0);
    b.due("part(3), told anew", x.part(3), 0);
    b.says("Promise 23", "BAD.");
    for (int person : new int[] {-1, 9, LOW, HIGH}) {
      b.due("part(" + person + ")", x.part(person), BAD);
    }
    b.due("part(0) of nobody", new TwoCamps().part(0), BAD);
    b.due("part(8) of 8 PEOPLE", Check.people(8).part(8), BAD);
  }

  private static void promise24(Boundary b) {
    b.says("Promise 24", "PEOPLE who are DOORS (bits).");
    doors(b, 0, 0, "");
    doors(b, 0, 9, "");
    doors(b, 1, 3, "a-b1;a-c1;");
    doors(b, 256, 9, "h-i1;a+i1;");
    doors(b, 2 | 4 | 8 | 16 | 32 | 64 | 128, 9, CHAIN_OF_8);
  }

  private static void promise25(Boundary b) {
    b.says("Promise 25", "How many BAD THREES.");
    b.due("threes() of nobody", new TwoCamps().threes(), 0);
    b.due("threes() of nine without FEELINGS", Check.people(9).threes(), 0);
    b.due("threes() of 36 likings", BoundariesOfPeople.all36(1, 0).threes(), 0);
    TwoCamps x = BoundariesOfPeople.all36(-1, 3);
    b.due("threes() of 36 hatreds", x.threes(), 84);
    x.feel(0, 8, 1, 1, 0);
    b.due("threes() of 35 hatreds", x.threes(), 84 - 7);
    b.due("threes() of one", Check.told(3, "a-b1;b+c1;c+a1;").threes(), 1);
  }

  private static void promise26(Boundary b) {
    TwoCamps x = Check.told(9, "g-h1;h-i1;i-g1;a+b1;");
    b.says("Promise 26", "A STEP of a PERSON: which FEELING turned.");
    b.due("step(8)", x.step(8), 1);
    b.due("felt(1, 2)", x.felt(1, 2), 1);
    b.due("count(6)", x.count(6), 2);
    b.due("felt(1, 3), its STRENGTH stays", x.felt(1, 3), 1);
    b.says("Promise 26", "NONE: none;");
    for (int p = 0; p < 9; p++) {
      b.due("step(" + p + ")", x.step(p), NONE);
    }
    b.due("count(6), as it was", x.count(6), 2);
    TwoCamps y = Check.told(3, "a-b1;b-c1;c-a1;");
    Check.text(y, "cost 1;let 0;");
    y.force(1);
    b.due("step(0), none can be WRONG", y.step(0), NONE);
    y.force(0);
    b.due("step(0), by another RULE", y.step(0), 0);
    b.says("Promise 26", "BAD.");
    for (int person : new int[] {-1, 9, LOW, HIGH}) {
      b.due("step(" + person + ")", x.step(person), BAD);
    }
    b.due("step(3) of 3 PEOPLE", Check.told(3, "a-b1;b-c1;c-a1;").step(3), BAD);
    b.due("step(0) of nobody", new TwoCamps().step(0), BAD);
  }

  private static void promise27(Boundary b) {
    TwoCamps one = Check.told(3, "a-b1;b-c1;c-a1;");
    b.says("Promise 27", "ENDS within n ROUNDS (0 .. 20).");
    for (int n = 1; n <= 20; n++) {
      b.due("ends(" + n + ")", one.ends(n), 1);
      b.due("ends(" + n + ") of nobody", new TwoCamps().ends(n), 0);
    }
    b.says("Promise 27", "NONE: not;");
    b.due("ends(0)", one.ends(0), NONE);
    // b - c is in one BAD THREE, whatever its SIGN is: it turns for ever
    TwoCamps ever = Check.told(4, "b-c1;a+b1!;a+c1!;d+b1!;d-c1!;");
    for (int n = 0; n <= 20; n++) {
      b.due("ends(" + n + ") of what turns for ever", ever.ends(n), NONE);
    }
    b.says("Promise 27", "BAD.");
    for (int n : new int[] {-1, 21, LOW, HIGH}) {
      b.due("ends(" + n + ")", one.ends(n), BAD);
      b.due("ends(" + n + ") of nobody", new TwoCamps().ends(n), BAD);
    }
  }
}
