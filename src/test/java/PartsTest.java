/** Promises 23 to 27: parts, steps. */
public final class PartsTest {
  private static final Check check = new Check();
  private static final int LOW = Integer.MIN_VALUE, HIGH = Integer.MAX_VALUE;

  public static void main(String[] args) {
    promise23();
    promise24();
    promise25();
    promise26();
    promise26Rule();
    promise27();
    check.end("PartsTest");
  }

  private static void promise23() {
    TwoCamps x = Check.told(9, "b-i1;i+d1;f+c1;g-h1!;h-c1;");
    int[] due = {0, 1, 2, 1, 4, 2, 2, 2, 1};
    for (int p = 0; p < 9; p++) {
      check.due("23: part(" + p + ")", x.part(p), due[p]);
    }
    check.due("23: count(7)", x.count(7), 4);
    for (int p : new int[] {-1, 9, HIGH, LOW}) {
      check.due("23: part(" + p + ")", x.part(p), -2);
    }
    x.feel(3, 6, 1, 1, 0);
    check.due("23: two PARTS become one", x.part(7), 1);
    check.due("23: a chain told backwards", Check.told(9, "h+i1;g+h1;f+g1;e+f1;d+e1;c+d1;b+c1;a+b1;").part(8), 0);
    check.due("23: a chain told forwards", Check.told(9, "a+b1;b+c1;c+d1;d+e1;e+f1;f+g1;g+h1;h+i1;").part(8), 0);
  }

  private static void promise24() {
    check.due("24: none", Check.people(3).doors(), 0);
    check.due("24: two", Check.told(2, "a+b1;").doors(), 0);
    check.due("24: a chain", Check.told(5, "a+b1;b-c1;c+d1;d-e1;").doors(), 2 | 4 | 8);
    check.due("24: a ring", Check.told(4, "a+b1;b-c1;c+d1;d-a1;").doors(), 0);
    check.due("24: a star", Check.told(5, "e+b1;e-c1;e+d1;e-a1;").doors(), 16);
    check.due("24: two rings by one", Check.told(6, "a+b1;b+c1;c+a1;c+d1;d+e1;e+c1;").doors(), 4);
    check.due("24: beside one who is alone", Check.told(4, "b+c1;c+d1;").doors(), 4);
    check.due("24: two beside one who is alone", Check.told(3, "b+c1;").doors(), 0);
    check.due("24: PERSON 0", Check.told(3, "b+a1;a-c1;").doors(), 1);
    check.due("24: of each PART", Check.told(9, "a+b1;b+c1;d+e1;e+f1;f+d1;g+i1;i+h1;").doors(), 2 | 256);
  }

  private static void promise25() {
    check.due("25: one hatred", Check.told(3, "a-b1;b+c1;c+a1;").threes(), 1);
    check.due("25: two hatreds", Check.told(3, "a-b1;b-c1;c+a1;").threes(), 0);
    check.due("25: three hatreds", Check.told(3, "a-b1;b-c1;c-a1;").threes(), 1);
    check.due("25: no hatred", Check.told(3, "a+b1;b+c1;c+a1;").threes(), 0);
    check.due("25: a FEELING too few", Check.told(3, "a-b1;b+c1;").threes(), 0);
    check.due("25: four who hate", Check.told(4, "a-b1;a-c1;a-d1;b-c1;b-d1;c-d1;").threes(), 4);
    check.due("25: FIXED ones, too", Check.told(4, "a-b1!;a+c1!;a+d1;b+c1!;b+d1;c+d1;").threes(), 2);
    TwoCamps all = Check.people(9);
    for (int a = 0; a < 9; a++) {
      for (int b = 0; b < a; b++) {
        all.feel(a, b, -1, 1, 0);
      }
    }
    check.due("25: nine who hate", all.threes(), 84);
    check.due("25: nine who hate, of one FEELING", all.felt(0, 8), 7);
  }

  private static void promise26() {
    TwoCamps x = Check.told(4, "c+d1;a-b1;b+c1;a+c1;b+d1;a+d1;");
    // BAD: a b c, a b d; FEELING 1, a - b, is in both, all others but 0 in one
    check.due("26: in the most", x.step(1), 1);
    check.due("26: it turned", x.felt(1, 2), 1);
    check.due("26: no BAD THREE any more", x.threes(), 0);
    check.due("26: none", x.step(1), -1);
    check.due("26: nothing turned", x.count(6), 0);
    TwoCamps y = Check.told(4, "c+d1;a-b1;b+c1;a+c1;b+d1;a+d1;");
    check.due("26: of like ones the least FEELING", y.step(2), 2);
    check.due("26: it turned", y.felt(2, 2), -1);
    check.due("26: hatreds", y.count(6), 2);
    for (int p : new int[] {-1, 4, HIGH, LOW}) {
      check.due("26: step(" + p + ")", y.step(p), -2);
    }
    check.due("26: who has none", Check.told(4, "a-b1;b+c1;c+a1;").step(3), -1);
    check.due("26: one's own alone", Check.told(4, "a-b1;b+c1;c+a1;a+d1;").step(3), -1);
    check.due("26: two BAD ones ahead of one", Check.told(5, "a+e1;d+e1;a+b1;b-c1;a+c1;a+d1;c-d1;").step(0), 4);
  }

  private static void promise26Rule() {
    TwoCamps x = Check.told(3, "a-b1!;b+c1;c+a1;");
    check.due("26: not one that can't be WRONG", x.step(0), 2);
    check.due("26: it turned", x.felt(2, 2), -1);
    TwoCamps y = Check.told(3, "a-b1!;b+c1!;c+a1!;");
    check.due("26: all can't be", y.step(1), -1);
    Check.text(y, "cost 1;let most=2;");
    y.force(1);
    check.due("26: by THE RULE", y.step(0), 2);
    check.due("26: by THE RULE", y.step(1), -1);
    TwoCamps z = Check.told(3, "a-b1;b-c1;c-a1;");
    Check.text(z, "cost 1;let not hate;");
    z.force(1);
    check.due("26: by THE RULE, no hatred", z.step(2), -1);
  }

  private static void promise27() {
    TwoCamps x = Check.told(4, "c+d1;a-b1;b+c1;a+c1;b+d1;a+d1;");
    check.due("27: ends(0)", x.ends(0), -1);
    check.due("27: ends(1)", x.ends(1), 1);
    check.due("27: ends(20)", x.ends(20), 1);
    check.due("27: nothing changes", x.threes(), 2);
    check.due("27: nothing changes", x.felt(1, 2), -1);
    for (int n : new int[] {-1, 21, HIGH, LOW}) {
      check.due("27: ends(" + n + ")", x.ends(n), -2);
    }
    x.step(0);
    check.due("27: PEACE", x.ends(0), 0);
    TwoCamps hatred = Check.told(3, "a-b1;b+c1;c+a1;");
    Check.text(hatred, "cost 1;let hate;");
    hatred.force(1);
    check.due("27: a hatred turns, then none can", hatred.ends(20), 1);
    TwoCamps stuck = Check.told(3, "a-b1!;b+c1!;c+a1!;");
    check.due("27: none can turn", stuck.ends(0), 0);
    rounds();
  }

  /** Streets that need more ROUNDS: each is gone through by step(), and must end where ends() said. */
  private static void rounds() {
    int[] seen = new int[22];
    for (int seed = 0; seed < 60; seed++) {
      java.util.Random random = new java.util.Random(seed);
      TwoCamps x = Check.people(6);
      for (int a = 0; a < 6; a++) {
        for (int b = 0; b < a; b++) {
          x.feel(a, b, random.nextInt(2) * 2 - 1, 1, random.nextInt(3) == 0 ? 1 : 0);
        }
      }
      int hatreds = x.count(6);
      int ends = x.ends(20);
      check.due("27: nothing changes", x.count(6), hatreds);
      if (ends > 0) {
        check.due("27: not a ROUND earlier", x.ends(ends - 1), -1);
      }
      int rounds = 0;
      for (; rounds <= 20 && turns(x); rounds++) {
        check.due("27: a ROUND fewer is left", x.ends(20 - rounds), ends < 0 ? -1 : ends - rounds - 1);
      }
      check.due("27: as many ROUNDS as were gone", ends, rounds > 20 ? -1 : rounds);
      seen[ends < 0 ? 21 : ends]++;
    }
    check.due("27: some need two ROUNDS", seen[2] > 0 ? 1 : 0, 1);
    check.due("27: some need three", seen[3] > 0 ? 1 : 0, 1);
    check.due("27: some do not end", seen[21] > 0 ? 1 : 0, 1);
  }

  private static boolean turns(TwoCamps x) {
    boolean turned = false;
    for (int p = 0; p < x.count(0); p++) {
      turned |= x.step(p) >= 0;
    }
    return turned;
  }
}
