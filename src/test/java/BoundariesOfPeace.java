/** Terms 3 (PEACE to IN k CAMPS) and promises 16 to 22. */
final class BoundariesOfPeace {
  private static final int NONE = Boundary.NONE, BAD = Boundary.BAD, STATE = Boundary.STATE, NO_SUCH = Boundary.NO_SUCH;
  private static final int LOW = Boundary.LOW, HIGH = Boundary.HIGH;
  /** Three who hate each other, and can't do otherwise. */
  private static final String NO_WAY = "a-b5!;b-c5!;c-a5!;";
  private static final String CHAIN_OF_8 = "a+b1;b+c1;c+d1;d+e1;e+f1;f+g1;g+h1;h+i1;";

  private BoundariesOfPeace() {
  }

  static void ask(Boundary b) {
    peace(b);
    ring(b);
    ringFound(b);
    least(b);
    all(b);
    together(b);
    aside(b);
    many(b);
    promise16(b);
    promise17(b);
    promise18(b);
    promise19(b);
    promise20(b);
    promise21(b);
    promise22(b);
  }

  /** LINES, or none, of so many PEOPLE. */
  static TwoCamps told(int people, String lines) {
    return lines.isEmpty() ? Check.people(people) : Check.told(people, lines);
  }

  private static void peace(Boundary b, int due, int people, String lines) {
    b.due("peace() of " + people + " PEOPLE, \"" + lines + "\"", told(people, lines).peace(), due);
  }

  private static void peace(Boundary b) {
    b.says("Terms 3", "PEACE: two camps with no FEELING WRONG.");
    peace(b, 0, 0, "");
    peace(b, 0, 1, "");
    peace(b, 0, 9, CHAIN_OF_8);
    peace(b, 2, 2, "a-b1;");
    peace(b, 2 | 8 | 32 | 128, 9, CHAIN_OF_8.replace('+', '-'));
    peace(b, NONE, 3, "a-b1;b-c1;c-a1;");
    peace(b, NONE, 3, "a+b1;b+c1;c-a1;");
    peace(b, 2, 3, "a-b1;b-c1;c+a1;");
    peace(b, NONE, 9, CHAIN_OF_8 + "i-a1;");
    peace(b, NONE, 9, "g-h1;h-i1;i-g1;");
    // whichever of a ring's FEELINGS was told first, it is the one that is WRONG
    peace(b, NONE, 4, "c+d1;a+c1;a-d1;");
    peace(b, NONE, 4, "a-d1;c+d1;a+c1;");
    peace(b, NONE, 4, "a+c1;a-d1;c+d1;");
    // all nine against each other, and all nine for each other
    b.due("peace() of 36 hatreds", BoundariesOfPeople.all36(-1, 0).peace(), NONE);
    b.due("peace() of 36 likings", BoundariesOfPeople.all36(1, 1).peace(), 0);
    // what can't be WRONG and what costs nothing is as any other
    peace(b, NONE, 3, NO_WAY);
    TwoCamps x = Check.told(3, "a-b1;b-c1;c-a1;");
    Check.text(x, "cost 0;let 1;");
    x.force(1);
    b.due("peace(), for nothing", x.peace(), NONE);
  }

  private static void ring(Boundary b, String lines, int people, int... due) {
    TwoCamps x = told(people, lines);
    String of = " of " + people + " PEOPLE, \"" + lines + "\"";
    b.due("ring(-1)" + of, x.ring(-1), due.length == 0 ? NONE : due.length);
    for (int i = 0; i < due.length; i++) {
      b.due("ring(" + i + ")" + of, x.ring(i), due[i]);
    }
    b.due("ring(" + due.length + ")" + of, x.ring(due.length), NONE);
  }

  private static void ring(Boundary b) {
    b.says("Terms 3", "A RING: PEOPLE, each with a FEELING to the next one, the last one to the first, with an odd number of hatreds: the shortest;");
    ring(b, "", 0);
    ring(b, "", 9);
    ring(b, "a-b1;", 2);
    ring(b, "a-b1;b-c1;", 3);
    ring(b, "a+b1;b+c1;c+a1;", 3);
    ring(b, "a+b1;b-c1;c-a1;", 3);
    ring(b, "a+b1;b+c1;c-a1;", 3, 0, 1, 2);
    ring(b, "a-b1;b-c1;c-a1;", 3, 0, 1, 2);
    ring(b, CHAIN_OF_8 + "i+a1;", 9);
    ring(b, CHAIN_OF_8 + "i-a1;", 9, 0, 1, 2, 3, 4, 5, 6, 7, 8);
    ring(b, CHAIN_OF_8.replace('+', '-') + "i-a1;", 9, 0, 1, 2, 3, 4, 5, 6, 7, 8);
    // a chord makes a shorter one of the two that it parts: the one that is odd
    ring(b, CHAIN_OF_8 + "i-a1;a+c1;", 9, 0, 2, 3, 4, 5, 6, 7, 8);
    ring(b, CHAIN_OF_8 + "i-a1;a-c1;", 9, 0, 1, 2);
    ring(b, "a-b1;b+c1;c+d1;d+a1;g+h1;h+i1;i-g1;", 9, 6, 7, 8);
    b.due("ring(-1) of 36 hatreds", BoundariesOfPeople.all36(-1, 0).ring(-1), 3);
  }

  private static void ringFound(Boundary b) {
    b.says("Terms 3", "found thus: from each PERSON p by numbers a walk over (PERSON, parity of hatreds) from (p, 0) to (p, 1), by widths,"
        + " of each the next PERSON by numbers; of all the shortest, of like ones the first p; told from p on, as it was first found.");
    // both rings of a have 3: the one by b is found ahead of the one by c
    ring(b, "a+d1;a-c1;c+d1;a+b1;b-d1;", 4, 0, 1, 3);
    // the next PERSON by numbers, not the FEELING that was told first
    ring(b, "a-d1;c+d1;a+c1;b+d1;a+b1;", 4, 0, 1, 3);
    ring(b, "f+i1;f+h1;h-i1;f+g1;g+i1;g+h1;", 9, 5, 7, 8);
    // of like ones the first p, though g's was told first
    ring(b, "g+h1;h+i1;i-g1;d+e1;e+f1;f-d1;a-b1;", 9, 3, 4, 5);
    // the first p's is longer
    ring(b, "a-b1;b+c1;c+d1;d+a1;d+e1;e+f1;f-d1;", 6, 3, 4, 5);
    // of rings of 4 the first that is found: a b c d ahead of a b e d
    ring(b, "a+b1;b+e1;e-d1;d+a1;b-c1;c+d1;", 5, 0, 1, 2, 3);
    // told the way it was found: of two ways round the one by the lesser PERSON
    ring(b, "c-b1;b-i1;i-c1;", 9, 1, 2, 8);
    ring(b, "d+b1;d-c1;b+c1;", 4, 1, 2, 3);
  }

  private static void least(Boundary b, int due, int people, String lines) {
    b.due("least() of " + people + " PEOPLE, \"" + lines + "\"", told(people, lines).least(), due);
  }

  private static void least(Boundary b) {
    b.says("Terms 3", "LEAST: of all campings of all PEOPLE into two camps (PERSON 0 in camp 0) without any WRONG that can't be:"
        + " the least sum of cost of WRONG ones;");
    least(b, 0, 1, "");
    least(b, 0, 9, "");
    least(b, 0, 2, "a-b99!;");
    least(b, 1, 3, "a-b1;b-c2;c-a3;");
    least(b, 2, 3, "a-b1!;b-c2;c-a3;");
    least(b, 3, 3, "a-b1!;b-c2!;c-a3;");
    // FIXED ones may be right by it, and what isn't wrong costs nothing
    least(b, 1, 3, "a-b1;b-c2!;c-a3!;");
    // four camps would let all be, two do not
    least(b, 4, 4, "a-b2;a-c2;a-d2;b-c2;b-d2;c-d2;");
    b.due("least() of 36 hatreds", BoundariesOfPeople.all36(-1, 0).least(), 6 + 10);
    TwoCamps x = Check.told(3, "a-b1;b-c2;c-a3;");
    Check.text(x, "cost 9999;let 1;");
    Check.text(x, "cost 0-1;let 1;");
    x.force(1);
    b.due("least() of the greatest cost", x.least(), 9999);
    x.force(2);
    b.due("least() for nothing", x.least(), 0);
    b.says("Terms 3", "NONE: there is none without.");
    least(b, NONE, 3, NO_WAY);
    least(b, NONE, 9, "a+b9;g+h1!;h+i1!;i-g1!;");
    b.due("least() of 36 hatreds that are FIXED", BoundariesOfPeople.all36(-1, 1).least(), NONE);
  }

  private static void all(Boundary b) {
    b.says("Terms 3", "ALL: those with that sum, by their number as bits (bit p: PERSON p in camp 1).");
    all(b, Check.people(1), 0);
    all(b, Check.people(2), 0, 2);
    all(b, Check.told(2, "a-b1!;"), 2);
    all(b, Check.told(3, "a-b5;b-c5;c-a5;"), 2, 4, 6);
    all(b, Check.told(3, "a-b4;b-c5;c-a5;"), 4);
    all(b, Check.told(3, NO_WAY));
    all(b, Check.told(9, CHAIN_OF_8.replace('+', '-')), 2 | 8 | 32 | 128);
    all(b, Check.told(9, CHAIN_OF_8 + "i-a1;"), 256, 256 + 128, 511 - 31, 511 - 15, 511 - 7, 511 - 3, 510, 0, 511 - 63);
    TwoCamps nine = Check.people(9);
    b.due("all(-1) of nine without FEELINGS", nine.all(-1), 256);
    for (int i = 0; i < 256; i++) {
      b.due("all(" + i + ") of nine without FEELINGS", nine.all(i), 2 * i);
    }
  }

  /** ALL of them, in whatever row they are due here. */
  private static void all(Boundary b, TwoCamps x, int... due) {
    int[] row = due.clone();
    java.util.Arrays.sort(row);
    b.due("all(-1)", x.all(-1), row.length);
    for (int i = 0; i < row.length; i++) {
      b.due("all(" + i + ")", x.all(i), row[i]);
    }
    b.due("all(" + row.length + ")", x.all(row.length), NONE);
  }

  private static void together(Boundary b) {
    b.says("Terms 3", "TOGETHER two PEOPLE: in all of these (2), in some (1), in none (0).");
    TwoCamps one = Check.told(3, "a-b5;b-c5;");
    b.due("together(0, 2) in the one of ALL", one.together(0, 2), 2);
    b.due("together(0, 1) in the one of ALL", one.together(0, 1), 0);
    TwoCamps three = Check.told(4, "a-b5;b-c5;c-a5;a+d9;");
    b.due("together(0, 3) in three of three", three.together(0, 3), 2);
    b.due("together(0, 1) in one of three", three.together(0, 1), 1);
    TwoCamps x = Check.told(4, "a-b5;b-c5;c-a5;c-d9;");
    b.due("together(2, 3) in none of three", x.together(2, 3), 0);
    b.due("together(0, 3) in two of three", x.together(0, 3), 1);
    b.due("together(7, 8) in 128 of 256", Check.people(9).together(7, 8), 1);
  }

  private static void aside(Boundary b) {
    b.says("Terms 3", "ASIDE: the fewest PEOPLE without whom all others are in PEACE;");
    TwoCamps x = Check.told(5, "a-b1;b-c1;c-a1;c-d1;d-e1;e-c1;");
    x.set(0, 2, 99);
    b.due("aside(), one of PRICE 99 ahead of two cheap ones", x.aside(), 4);
    b.due("aside() in PEACE", Check.told(2, "a-b1;").aside(), 0);
    b.due("aside() of nobody", new TwoCamps().aside(), 0);
    b.due("aside() of 36 hatreds: two can stay", Integer.bitCount(BoundariesOfPeople.all36(-1, 0).aside()), 7);
    TwoCamps two = Check.told(6, "a-b1;b-c1;c-a1;d+e1;e+f1;f-d1;");
    b.due("aside(), one of each of two rings", two.aside(), 1 | 8);
    b.says("Terms 3", "of like ones the least PRICES together, of like ones the least as bits.");
    TwoCamps y = Check.told(3, "a-b1;b-c1;c-a1;");
    int[][] rows = {{5, 5, 5, 1}, {6, 5, 5, 2}, {6, 5, 4, 4}, {99, 99, 98, 4}, {0, 0, 0, 1}, {1, 0, 0, 2}};
    for (int[] r : rows) {
      for (int p = 0; p < 3; p++) {
        y.set(0, p, r[p]);
      }
      b.due("aside() by PRICES " + r[0] + ", " + r[1] + ", " + r[2], y.aside(), r[3]);
    }
    // of each ring the cheapest one: b and f, of 2 together
    int[] prices = {3, 1, 9, 2, 9, 1};
    for (int p = 0; p < 6; p++) {
      two.set(0, p, prices[p]);
    }
    b.due("aside(), the least together", two.aside(), 2 | 32);
    two.set(0, 3, 1);
    b.due("aside(), the least as bits of those", two.aside(), 2 | 8);
  }

  private static void many(Boundary b) {
    b.says("Terms 3", "IN k CAMPS (1 .. 4): the least sum of cost over all campings into k camps at most (some may be empty) without any WRONG that can't be.");
    many(b, Check.people(9), 0, 0, 0, 0);
    many(b, new TwoCamps(), 0, 0, 0, 0);
    many(b, BoundariesOfPeople.all36(-1, 0), 36, 16, 9, 6);
    many(b, BoundariesOfPeople.all36(1, 0), 0, 0, 0, 0);
    many(b, BoundariesOfPeople.all36(-1, 1), NONE, NONE, NONE, NONE);
    many(b, Check.told(2, "a-b7;"), 7, 0, 0, 0);
    many(b, Check.told(2, "a-b7!;"), NONE, 0, 0, 0);
    many(b, Check.told(3, NO_WAY), NONE, NONE, 0, 0);
    many(b, Check.told(4, "a-b2;a-c2;a-d2;b-c2;b-d2;c-d1;"), 11, 3, 1, 0);
    many(b, Check.told(5, "a-b1!;a-c1!;a-d1!;b-c1!;b-d1!;c-d1!;a-e3;b-e4;c-e5;d-e6;"), NONE, NONE, NONE, 3);
    // empty ones are of use: a likes all who hate each other
    many(b, Check.told(4, "a+b9;a+c9;a+d9;b-c1;c-d1;b-d1;"), 3, 3, 3, 3);
  }

  private static void many(Boundary b, TwoCamps x, int... due) {
    for (int k = 1; k <= 4; k++) {
      b.due("many(" + k + ") of " + x.count(0) + " PEOPLE with " + x.count(1) + " FEELINGS", x.many(k), due[k - 1]);
    }
    b.due("many(0)", x.many(0), BAD);
    b.due("many(5)", x.many(5), BAD);
  }

  private static void promise16(Boundary b) {
    b.says("Promise 16", "PEACE: as bits (PERSON p in camp 1; the least PERSON of each PART in camp 0).");
    peace(b, 0, 9, "");
    peace(b, 256, 9, "a-i1;");
    peace(b, 256, 9, "h-i1;");
    peace(b, 128, 9, "h-i1;a-h1;");
    peace(b, 2 | 8 | 32 | 128, 9, "b-a1;d-c1;f-e1;h-g1;");
    peace(b, 4 | 16, 5, "e-b1;c-a1;a+d1;");
    peace(b, 8, 4, "d-a1;d-b1;d-c1;");
    peace(b, 6, 4, "d-c1;c+b1;b-a1;");
    b.says("Promise 16", "NONE: there is none.");
    peace(b, NONE, 3, "a-b1;b-c1;c-a1;");
    peace(b, NONE, 9, "a+b1;b+c1;g+h1;h+i1;i-g1;");
    TwoCamps x = Check.told(3, "a-b1;b-c1;c-a1;");
    x.feel(0, 1, 1, 1, 0);
    b.due("peace(), told anew", x.peace(), 4);
    x.feel(0, 1, -1, 1, 0);
    b.due("peace(), told anew", x.peace(), NONE);
  }

  private static void promise17(Boundary b) {
    TwoCamps x = Check.told(9, CHAIN_OF_8 + "i-b1;");
    b.says("Promise 17", "A RING: i = -1: how many PEOPLE; else the i-th.");
    b.due("ring(-1)", x.ring(-1), 8);
    for (int i = 0; i < 8; i++) {
      b.due("ring(" + i + ")", x.ring(i), i + 1);
    }
    b.due("ring(-1)", x.ring(-1), 8);
    b.says("Promise 17", "NONE: none such.");
    for (int i : new int[] {8, 9, 36, -2, LOW, HIGH}) {
      b.due("ring(" + i + ")", x.ring(i), NONE);
    }
    for (int i : new int[] {-2, -1, 0, 1, 2, LOW, HIGH}) {
      b.due("ring(" + i + ") of nobody", new TwoCamps().ring(i), NONE);
      b.due("ring(" + i + ") in PEACE", Check.told(3, "a-b1;b-c1;c+a1;").ring(i), NONE);
    }
    x.feel(8, 1, 1, 1, 0);
    b.due("ring(-1), told anew", x.ring(-1), NONE);
    b.due("ring(0), told anew", x.ring(0), NONE);
  }

  private static void promise18(Boundary b) {
    b.says("Promise 18", "LEAST.");
    least(b, 0, 1, "");
    least(b, 99, 3, "a-b99;b-c99;c-a99;");
    b.says("Promise 18", "NONE: as told;");
    least(b, NONE, 3, NO_WAY);
    TwoCamps x = Check.told(3, "a-b5;b-c5;c-a5;");
    Check.text(x, "cost 0;let 0;");
    x.force(1);
    b.due("least(), none can be WRONG", x.least(), NONE);
    b.says("Promise 18", "-5: there is nobody.");
    TwoCamps nobody = new TwoCamps();
    b.due("least() of nobody", nobody.least(), NO_SUCH);
    Check.text(nobody, "cost 0;let 0;");
    nobody.force(1);
    b.due("least() of nobody, by another RULE", nobody.least(), NO_SUCH);
    nobody.person(0);
    b.due("least() of somebody", nobody.least(), 0);
  }

  private static void promise19(Boundary b) {
    TwoCamps x = Check.told(3, "a-b5;b-c5;c-a5;");
    b.says("Promise 19", "ALL: i = -1: how many; else the i-th.");
    all(b, x, 2, 4, 6);
    all(b, Check.people(1), 0);
    b.due("all(-1) of nobody", new TwoCamps().all(-1), 0);
    b.due("all(-1), none can be", Check.told(3, NO_WAY).all(-1), 0);
    b.due("all(-1) of nine without FEELINGS", Check.people(9).all(-1), 256);
    b.due("all(255) of nine without FEELINGS", Check.people(9).all(255), 510);
    b.says("Promise 19", "NONE: none such.");
    for (int i : new int[] {3, 4, 6, -2, LOW, HIGH}) {
      b.due("all(" + i + ")", x.all(i), NONE);
    }
    for (int i : new int[] {0, 1, -2, LOW, HIGH}) {
      b.due("all(" + i + ") of nobody", new TwoCamps().all(i), NONE);
      b.due("all(" + i + "), none can be", Check.told(3, NO_WAY).all(i), NONE);
    }
    b.due("all(1) of one", Check.people(1).all(1), NONE);
    x.feel(0, 1, -1, 5, 1);
    b.due("all(1), told anew", x.all(1), 6);
    x.feel(1, 2, -1, 5, 1);
    x.feel(0, 2, -1, 5, 1);
    b.due("all(-1), told anew: none can be", x.all(-1), 0);
    b.due("all(0), told anew: none can be", x.all(0), NONE);
    b.due("all(256) of nine without FEELINGS", Check.people(9).all(256), NONE);
  }

  private static void promise20(Boundary b) {
    TwoCamps x = Check.told(4, "a-b5;b-c5;c-a5;a+d9;");
    b.says("Promise 20", "TOGETHER.");
    int[][] rows = {{0, 1, 1}, {1, 0, 1}, {0, 3, 2}, {3, 0, 2}, {3, 1, 1}};
    for (int[] r : rows) {
      b.due("together(" + r[0] + ", " + r[1] + ")", x.together(r[0], r[1]), r[2]);
    }
    b.due("together(0, 1) of two who hate", Check.told(2, "a-b5;").together(0, 1), 0);
    TwoCamps none = Check.told(3, NO_WAY);
    b.says("Promise 20", "BAD: PEOPLE (alike, too);");
    int[][] bad = {{0, 0}, {2, 2}, {-1, 0}, {0, -1}, {4, 0}, {0, 4}, {4, 4}, {LOW, 0}, {0, HIGH}};
    for (int[] r : bad) {
      b.due("together(" + r[0] + ", " + r[1] + ")", x.together(r[0], r[1]), BAD);
      b.due("together(" + r[0] + ", " + r[1] + "), BAD ahead of STATE", none.together(r[0], r[1]), BAD);
    }
    b.due("together(0, 1) of nobody", new TwoCamps().together(0, 1), BAD);
    b.due("together(0, 1) of one", Check.people(1).together(0, 1), BAD);
    b.says("Promise 20", "STATE: there are none of ALL.");
    b.due("together(0, 1)", none.together(0, 1), STATE);
    b.due("together(2, 0)", none.together(2, 0), STATE);
    none.feel(0, 1, 1, 1, 0);
    b.due("together(0, 1), told anew", none.together(0, 1), 2);
  }

  private static void promise21(Boundary b) {
    b.says("Promise 21", "ASIDE (bits).");
    b.due("aside() of nobody", new TwoCamps().aside(), 0);
    b.due("aside() of nine without FEELINGS", Check.people(9).aside(), 0);
    b.due("aside(), PERSON 0", Check.told(3, "a-b1;b-c1;c-a1;").aside(), 1);
    b.due("aside(), PERSON 8", Check.told(9, "a-i1;b-i1;a-b1;c-i1;d-i1;c-d1;").aside(), 256);
    TwoCamps x = BoundariesOfPeople.all36(-1, 1);
    b.due("aside() of 36 hatreds, the cheapest seven", x.aside(), 127);
    x.set(0, 0, 99);
    x.set(0, 8, 0);
    b.due("aside() of 36 hatreds, the cheapest seven", x.aside(), 511 - 1 - 128);
    TwoCamps like = Check.told(4, "a+b1;b+c1;c-a1;a-d1;");
    b.due("aside() of a ring with one hatred", like.aside(), 1);
  }

  private static void promise22(Boundary b) {
    b.says("Promise 22", "IN k CAMPS.");
    TwoCamps x = Check.told(4, "a-b2;a-c2;a-d2;b-c2;b-d2;c-d1;");
    many(b, x, 11, 3, 1, 0);
    Check.text(x, "cost strength*9999;let strength=1;");
    x.force(1);
    many(b, x, NONE, NONE, 9999, 0);
    b.says("Promise 22", "BAD: k;");
    TwoCamps none = Check.told(2, "a-b1!;");
    for (int k : new int[] {0, 5, -1, LOW, HIGH}) {
      b.due("many(" + k + ")", x.many(k), BAD);
      b.due("many(" + k + "), BAD ahead of NONE", none.many(k), BAD);
      b.due("many(" + k + ") of nobody", new TwoCamps().many(k), BAD);
    }
    b.says("Promise 22", "NONE: none such.");
    b.due("many(1)", none.many(1), NONE);
    b.due("many(2)", none.many(2), 0);
    b.due("many(4) of nine who hate and can't else", BoundariesOfPeople.all36(-1, 1).many(4), NONE);
  }
}
