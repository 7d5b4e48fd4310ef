/** Promises 16 to 22: peace. */
public final class PeaceTest {
  private static final Check check = new Check();
  private static final int LOW = Integer.MIN_VALUE, HIGH = Integer.MAX_VALUE;

  public static void main(String[] args) {
    promise16();
    promise17();
    promise17OfLikeOnes();
    promise18();
    promise19();
    ofNobody();
    promise20();
    promise21();
    promise22();
    check.end("PeaceTest");
  }

  private static void promise16() {
    check.due("16: no FEELINGS", Check.people(4).peace(), 0);
    check.due("16: all like", Check.told(4, "a+b1;c+d1;b+c1;").peace(), 0);
    check.due("16: the least of each PART in camp 0", Check.told(6, "b-e1;f-c1;d+f1;").peace(), 1 << 4 | 1 << 5 | 1 << 3);
    check.due("16: by hatreds along", Check.told(5, "a-b1;b-c1;c-d1;d-e1;").peace(), 2 | 8);
    check.due("16: a ring with two hatreds", Check.told(4, "a-b1;b+c1;c-d1;d+a1;").peace(), 6);
    check.due("16: three hatreds", Check.told(3, "a-b1;b-c1;c-a1;").peace(), -1);
    check.due("16: one hatred", Check.told(4, "a+b1;b+c1;c+d1;a-d1;").peace(), -1);
    check.due("16: not in one PART", Check.told(9, "a-b1;g+h1;h+i1;i-g1;").peace(), -1);
    check.due("16: the first told is the one WRONG", Check.told(4, "c+d1;a+c1;a-d1;").peace(), -1);
    check.due("16: told the other way round", Check.told(4, "d-c1;c+b1;b-a1;").peace(), 6);
    TwoCamps x = Check.told(9, "a-i9!;h-i1;");
    check.due("16: FIXED ones are as others", x.peace(), 1 << 8);
    Check.text(x, "cost 0;let 1;");
    x.force(1);
    check.due("16: THE RULE does not matter", x.peace(), 1 << 8);
  }

  private static void ring(String lines, int people, int... ring) {
    TwoCamps x = Check.told(people, lines);
    check.due("17: size in " + lines, x.ring(-1), ring.length == 0 ? -1 : ring.length);
    for (int i = 0; i < ring.length; i++) {
      check.due("17: ring(" + i + ") in " + lines, x.ring(i), ring[i]);
    }
    for (int i : new int[] {ring.length, -2, 9, HIGH, LOW}) {
      check.due("17: ring(" + i + ") in " + lines, x.ring(i), -1);
    }
  }

  private static void promise17() {
    ring("a-b1;b-c1;c+a1;", 3);
    ring("a-b1;", 2);
    ring("a-b1;b-c1;c-a1;", 3, 0, 1, 2);
    ring("b+c1;c+d1;d-b1;", 5, 1, 2, 3);
    ring("a+b1;b+c1;c+d1;d-a1;", 4, 0, 1, 2, 3);
    // a ring of 4 from a on, one of 3 from e on
    ring("a-b1;b+c1;c+d1;d+a1;e+f1;f+g1;g-e1;", 7, 4, 5, 6);
    ring("a+b1;b+c1;c+d1;d+e1;e+f1;f+g1;g+h1;h+i1;i-a1;", 9, 0, 1, 2, 3, 4, 5, 6, 7, 8);
    TwoCamps x = Check.told(4, "a+b1;b+c1;a-c1;c+d1;d+a1;");
    check.due("17: a RING", x.ring(-1), 3);
    x.feel(0, 2, 1, 1, 0);
    check.due("17: it is gone", x.ring(-1), -1);
    check.due("17: it is gone", x.ring(0), -1);
    x.feel(1, 2, -1, 1, 0);
    x.feel(2, 3, -1, 1, 0);
    check.due("17: another one", x.ring(2), 2);
    // the even ring of 3 is no RING
    ring("a-b1;b-c1;a+c1;c+d1;d+e1;e-a1;", 5, 0, 2, 3, 4);
  }

  private static void promise17OfLikeOnes() {
    // both rings have 3: from a on by b ahead of c
    ring("a+d1;a-c1;c+d1;a+b1;b-d1;", 4, 0, 1, 3);
    // of rings through b and c, b's walk comes first
    ring("b+d1;d+e1;e-b1;c+d1;c-e1;", 5, 1, 3, 4);
    // rings of 4: a b c d and a b e d
    ring("a+b1;b+e1;e-d1;d+a1;b-c1;c+d1;", 5, 0, 1, 2, 3);
    ring("a+b1;b+c1;c+d1;d+a1;b+e1;e-d1;", 5, 0, 1, 4, 3);
    // the first from f on goes by the lesser neighbours, whatever was told first
    ring("f+i1;f+h1;h-i1;f+g1;g+i1;g+h1;", 9, 5, 7, 8);
    ring("i+h1;i+g1;h-g1;f+g1;f-i1;", 9, 5, 6, 8);
  }

  private static void promise18() {
    check.due("18: nobody", new TwoCamps().least(), -5);
    check.due("18: one", Check.people(1).least(), 0);
    check.due("18: PEACE", Check.told(3, "a-b9;b+c9;").least(), 0);
    check.due("18: the least of three", Check.told(3, "a-b9;b-c7;c-a8;").least(), 7);
    check.due("18: the least can't be", Check.told(3, "a-b9;b-c7!;c-a8;").least(), 8);
    check.due("18: none can be", Check.told(3, "a-b9!;b-c7!;c-a8!;").least(), -1);
    check.due("18: two rings", Check.told(4, "a+b5;b+c4;c-a3;c+d9;d-a2;").least(), 4);
    check.due("18: of 9", Check.told(9, "a-b99;b-c99;c-a99;d-e98;e-f98;f-d98;g-h97;h-i97;i-g97;").least(), 294);
    TwoCamps x = Check.told(3, "a-b9;b-c7;c-a8!;");
    Check.text(x, "cost most*1000+strength;let hate and not least;");
    x.force(1);
    check.due("18: by THE RULE", x.least(), 1009);
    x.feel(0, 2, 1, 8, 0);
    check.due("18: PEACE again", x.least(), 0);
    x.feel(0, 2, -1, 1, 0);
    check.due("18: three hatreds again", x.least(), 1009);
  }

  private static void promise19() {
    TwoCamps x = Check.told(3, "a-b5;b-c5;c-a5;");
    int[] all = {2, 4, 6};
    check.due("19: all(-1)", x.all(-1), 3);
    for (int i = 0; i < all.length; i++) {
      check.due("19: all(" + i + ")", x.all(i), all[i]);
    }
    for (int i : new int[] {3, -2, 9, HIGH, LOW}) {
      check.due("19: all(" + i + ")", x.all(i), -1);
    }
    x.feel(1, 2, -1, 4, 0);
    check.due("19: one that is least", x.all(-1), 1);
    check.due("19: one that is least", x.all(0), 6);
    TwoCamps y = Check.people(9);
    check.due("19: all of 9", y.all(-1), 256);
    check.due("19: the last of 9", y.all(255), 510);
    check.due("19: the 77th of 9", y.all(77), 154);
    check.due("19: past the last of 9", y.all(256), -1);
    TwoCamps none = Check.told(3, "a-b5!;b-c5!;c-a5;");
    check.due("19: one", none.all(-1), 1);
    none.feel(0, 2, -1, 5, 1);
    check.due("19: none, how many", none.all(-1), 0);
    check.due("19: none", none.all(0), -1);
    TwoCamps one = Check.people(1);
    check.due("19: of one", one.all(-1), 1);
    check.due("19: of one", one.all(0), 0);
    Check.text(x, "cost 0;let fixed=0;");
    x.force(1);
    check.due("19: by THE RULE", x.all(-1), 4);
  }

  /** With nobody there is no PERSON 0 to be in camp 0: no LEAST, and none of ALL. */
  private static void ofNobody() {
    TwoCamps x = new TwoCamps();
    check.due("19: nobody, how many", x.all(-1), 0);
    for (int i : new int[] {0, 1, -2, HIGH, LOW}) {
      check.due("19: nobody, all(" + i + ")", x.all(i), -1);
    }
    check.due("20: nobody", x.together(0, 1), -2);
    check.due("28: nobody", x.meet(0, 1, 0), TwoCamps.NO);
    check.due("29: nobody", x.edge(0), TwoCamps.NO);
    check.due("30: nobody", x.bring(0, 1), -2);
    check.due("16: nobody", x.peace(), 0);
    check.due("17: nobody", x.ring(-1), -1);
    check.due("21: nobody", x.aside(), 0);
    check.due("22: nobody", x.many(1), 0);
    Check.text(x, "cost 1;let 0;");
    x.force(1);
    check.due("19: nobody, by another RULE", x.all(0), -1);
    check.due("18: nobody, by another RULE", x.least(), -5);
    x.person(0);
    check.due("19: somebody came, how many", x.all(-1), 1);
    check.due("19: somebody came", x.all(0), 0);
    check.due("18: somebody came", x.least(), 0);
  }

  private static void promise20() {
    TwoCamps x = Check.told(5, "a-b5;b-c5;c-a5;c+d9;");
    int[][] due = {{0, 1, 1}, {0, 2, 1}, {1, 2, 1}, {2, 3, 2}, {0, 3, 1}, {0, 4, 1}, {3, 4, 1}};
    for (int[] c : due) {
      check.due("20: together(" + c[0] + ", " + c[1] + ")", x.together(c[0], c[1]), c[2]);
      check.due("20: together(" + c[1] + ", " + c[0] + ")", x.together(c[1], c[0]), c[2]);
    }
    check.due("20: in one of three", Check.told(3, "a-b5;b-c5;c-a5;").together(0, 2), 1);
    TwoCamps y = Check.told(4, "a-b5;b-c1;c-d7;");
    check.due("20: in none", y.together(0, 1), 0);
    check.due("20: in none", y.together(3, 0), 0);
    check.due("20: in all", y.together(0, 2), 2);
    check.due("20: in all", y.together(3, 1), 2);
    int[][] bad = {{0, 0}, {3, 3}, {0, 4}, {4, 0}, {-1, 0}, {0, -1}, {HIGH, LOW}};
    for (int[] c : bad) {
      check.due("20: together(" + c[0] + ", " + c[1] + ")", y.together(c[0], c[1]), -2);
    }
    TwoCamps none = Check.told(3, "a-b5!;b-c5!;c-a5!;");
    check.due("20: none of ALL", none.together(0, 1), -3);
    check.due("20: BAD ahead of STATE", none.together(0, 0), -2);
    check.due("20: BAD ahead of STATE", none.together(0, 3), -2);
  }

  private static void promise21() {
    check.due("21: PEACE", Check.told(4, "a-b1;b-c1;").aside(), 0);
    TwoCamps x = Check.told(3, "a-b1;b-c1;c-a1;");
    check.due("21: the least PRICE", x.aside(), 1);
    x.set(0, 0, 50);
    x.set(0, 1, 40);
    x.set(0, 2, 40);
    check.due("21: the least as bits of like ones", x.aside(), 2);
    x.set(0, 2, 39);
    check.due("21: the least PRICE", x.aside(), 4);
    TwoCamps y = Check.told(5, "a-b1;b-c1;c-a1;c-d1;d-e1;e-c1;");
    y.set(0, 2, 99);
    check.due("21: the fewest, at any PRICE", y.aside(), 4);
    check.due("21: the fewest, if greater as bits", Check.told(5, "a-c1;c-e1;e-a1;b-d1;d-e1;e-b1;").aside(), 16);
    TwoCamps all = Check.people(9);
    for (int a = 0; a < 9; a++) {
      all.set(0, a, a == 3 || a == 7 ? 9 : 8);
      for (int b = 0; b < a; b++) {
        all.feel(a, b, -1, 1, 1);
      }
    }
    check.due("21: two of 9 can stay", all.aside(), 511 - (1 << 3) - (1 << 7));
    all.set(0, 8, 9);
    check.due("21: of like PRICES the least as bits", all.aside(), 511 - (1 << 7) - (1 << 8));
    TwoCamps z = Check.told(4, "a+b1;b+c1;c-a1;b+d1;d-a1;");
    check.due("21: in both rings", z.aside(), 1);
    z.set(0, 0, 9);
    check.due("21: in both rings, cheaper", z.aside(), 2);
  }

  private static void promise22() {
    TwoCamps x = Check.told(5, "a-b5;a-c5;a-d5;b-c5;b-d5;c-d4;d-e1;");
    int[] due = {-2, 30, 9, 4, 0, -2};
    for (int k = 0; k < due.length; k++) {
      check.due("22: many(" + k + ")", x.many(k), due[k]);
    }
    check.due("22: many(-1)", x.many(-1), -2);
    check.due("22: many(HIGH)", x.many(HIGH), -2);
    check.due("22: many(LOW)", x.many(LOW), -2);
    TwoCamps y = Check.told(3, "a-b5!;b-c5!;c-a5!;");
    check.due("22: none in 1", y.many(1), -1);
    check.due("22: none in 2", y.many(2), -1);
    check.due("22: in 3", y.many(3), 0);
    check.due("22: in 4", y.many(4), 0);
    TwoCamps all = Check.people(9);
    for (int a = 0; a < 9; a++) {
      for (int b = 0; b < a; b++) {
        all.feel(a, b, -1, 1, 0);
      }
    }
    // 9 in k camps: as even as can be
    int[] even = {36, 16, 9, 6};
    for (int k = 1; k <= 4; k++) {
      check.due("22: 9 who all hate, many(" + k + ")", all.many(k), even[k - 1]);
    }
    TwoCamps z = Check.told(4, "a+b9;b-c2;c-d2;d-b2;a-d9;a-c9;");
    check.due("22: some may be empty", z.many(4), 0);
    z.feel(2, 3, 1, 50, 0);
    check.due("22: no more camps than are of use", z.many(4), z.many(2));
    check.due("22: fewer cost no less", z.many(1), 9 + 9 + 2 + 2);
    Check.text(z, "cost strength*100;let strength<10;");
    z.force(1);
    check.due("22: by THE RULE", z.many(1), 2200);
  }
}
