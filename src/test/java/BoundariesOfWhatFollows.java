/** Terms 3 (MEET, EDGE, BRING), Terms 4 (AN IMAGE) and promises 28 to 33. */
final class BoundariesOfWhatFollows {
  private static final int NONE = Boundary.NONE, BAD = Boundary.BAD, STATE = Boundary.STATE, NO_SUCH = Boundary.NO_SUCH;
  private static final int LOW = Boundary.LOW, HIGH = Boundary.HIGH, NO_OTHER = 1000000;
  private static final long NO = Boundary.NO;
  private static final String NO_WAY = "a-b5!;b-c5!;c-a5!;";

  private BoundariesOfWhatFollows() {
  }

  static void ask(Boundary b) {
    meet(b);
    edge(b);
    bring(b);
    image(b);
    imageOfWhoCame(b);
    promise28(b);
    promise29(b);
    promise30(b);
    promises31And32(b);
    promise33(b);
  }

  private static void meet(Boundary b, TwoCamps x, int one, int other, long above, long below) {
    b.due("meet(" + one + ", " + other + ", 0)", x.meet(one, other, 0), above);
    b.due("meet(" + other + ", " + one + ", 0)", x.meet(other, one, 0), above);
    b.due("meet(" + one + ", " + other + ", 1)", x.meet(one, other, 1), below);
  }

  private static void meet(Boundary b) {
    b.says("Terms 3", "MEET: of two without a FEELING: in how many of ALL they are together, by how many ALL are.");
    // of a, b, c by turns two are together; d is with c, e is not, f is anywhere
    TwoCamps x = Check.told(6, "a-b5;b-c5;c-a5;c+d9;d-e2;");
    b.due("all(-1)", x.all(-1), 6);
    meet(b, x, 0, 3, 1, 3);
    meet(b, x, 0, 4, 2, 3);
    meet(b, x, 2, 4, 0, 1);
    meet(b, x, 0, 5, 1, 2);
    meet(b, x, 3, 4, NO, NO);
    x.feel(0, 5, 1, 1, 0);
    meet(b, x, 0, 5, NO, NO);
    meet(b, x, 3, 5, 1, 3);
  }

  private static void edge(Boundary b) {
    // LEAST is 5, by a - b alone
    TwoCamps x = Check.told(6, "a-b5;b-c7;c-a9;c+d3;e+f2!;");
    b.says("Terms 3", "EDGE of a FEELING: the least sum with it WRONG less LEAST, if it is WRONG in none of ALL;");
    b.due("edge(1)", x.edge(1), 7 - 5);
    b.due("edge(2)", x.edge(2), 9 - 5);
    b.due("edge(3)", x.edge(3), 5 + 3 - 5);
    b.due("edge(0) of one, in PEACE", Check.told(2, "a-b99;").edge(0), 99);
    b.says("Terms 3", "LEAST less the least sum with it right, if it is WRONG in all;");
    b.due("edge(0)", x.edge(0), 5 - 7);
    TwoCamps low = Check.told(3, "a-b1;b-c99;c-a99;");
    b.due("edge(0), the lowest by TEXT 0", low.edge(0), 1 - 99);
    Check.text(low, "cost (1<strength)*9999;let 1;");
    low.force(1);
    b.due("edge(0), the lowest of all", low.edge(0), -9999);
    b.says("Terms 3", "0, if it is in some;");
    TwoCamps some = Check.told(3, "a-b5;b-c5;c-a6;");
    b.due("edge(0)", some.edge(0), 0);
    b.due("edge(1)", some.edge(1), 0);
    b.due("edge(2)", some.edge(2), 1);
    TwoCamps nothing = Check.told(2, "a+b5;");
    Check.text(nothing, "cost 0;let 1;");
    nothing.force(1);
    b.due("edge(0), for nothing", nothing.edge(0), 0);
    b.says("Terms 3", "1000000: there is none of the other sort (none of them with a WRONG that can't be).");
    b.due("edge(4), it can't be WRONG", x.edge(4), NO_OTHER);
    TwoCamps forced = Check.told(4, "a-b9;b-c7!;c-a8!;a+d1;");
    b.due("edge(0), it can't be right", forced.edge(0), NO_OTHER);
    b.due("edge(1), it can't be WRONG", forced.edge(1), NO_OTHER);
    b.due("edge(3), it can be", forced.edge(3), 1);
    // a + b may be WRONG, but then one of the two that can't be is
    TwoCamps other = Check.told(3, "a+b9;b+c7!;c+a8!;");
    b.due("edge(0), another one can't be WRONG", other.edge(0), NO_OTHER);
  }

  private static void bring(Boundary b, TwoCamps x, int first, int... rows) {
    b.due("all(0)", x.all(0), first);
    for (int r = 0; r < rows.length; r += 3) {
      b.due("bring(" + rows[r] + ", " + rows[r + 1] + ")", x.bring(rows[r], rows[r + 1]), rows[r + 2]);
    }
  }

  private static void bring(Boundary b) {
    b.says("Terms 3", "BRING a PERSON into the camp of another one: the fewest others (neither of the two) whose camps must be told as in the camping"
        + " so that in each camping with the least sum of those that have these so the two are together;");
    // always together: no one must be told
    bring(b, Check.told(3, "a-b5;b-c5;"), 2, 0, 2, 0, 2, 0, 0);
    // b hates, or is hated by, a and c, who may be together or not
    bring(b, Check.told(4, "a-b4;b-c4;a-c4;c+d6;"), 2, 0, 2, 8, 2, 0, 8, 0, 3, 4, 2, 3, 0);
    // b and e, c and d: each two hang on one another, the twos are free
    bring(b, Check.told(5, "e+b1;d-c2;"), 4, 1, 3, 4 | 16, 3, 1, 4 | 16, 4, 3, 2 | 4);
    // e alone would do, and b with c, who are less as bits
    bring(b, Check.told(5, "e+b1;b-c1;c+d1;d+e2;"), 0, 0, 3, 16, 3, 0, 16, 1, 4, NONE, 3, 4, 0);
    b.says("Terms 3", "of like ones the least as bits; the camping being the first of ALL.");
    TwoCamps x = Check.told(5, "b-c1;c-d1;d-b1;e-c1;e-d1;");
    bring(b, x, 12, 1, 4, 0, 0, 1, 4, 4, 0, 2, 1, 3, STATE);
    TwoCamps ring = Check.told(5, "a-b1;b-c1;c-d1;d-e1;e-a1;");
    bring(b, ring, 10, 0, 2, 8, 1, 3, 16);
    b.says("Terms 3", "NONE: not even with all others.");
    bring(b, ring, 10, 0, 4, NONE, 2, 4, NONE);
    bring(b, Check.people(2), 0, 0, 1, NONE, 1, 0, NONE);
    bring(b, Check.people(9), 0, 0, 1, NONE, 8, 7, NONE);
  }

  private static void image(Boundary b) {
    b.says("Terms 4", "AN IMAGE keeps all FEELINGS (how many there are, too), PRICES, who is LED, THE RULE");
    TwoCamps x = Check.told(9, "a+b5k;b-c6!;");
    Check.text(x, "cost 7;let 1;");
    x.force(1);
    x.set(1, 2, 1);
    b.due("image()", x.image(), 2);
    x.force(0);
    x.set(0, 8, 99);
    x.set(1, 2, 0);
    x.set(1, 8, 1);
    for (int a = 0; a < 9; a++) {
      for (int c = 0; c < a; c++) {
        x.feel(a, c, -1, 99, 0);
      }
    }
    b.due("count(1)", x.count(1), 36);
    b.due("back()", x.back(), 2);
    b.due("count(1), how many there are", x.count(1), 2);
    b.due("count(6)", x.count(6), 1);
    BoundariesOfPeople.row(b, x, 0, 0, 1, 1, 5, 1, 0, 7, 1);
    BoundariesOfPeople.row(b, x, 1, 1, 2, -1, 6, 0, 1, 7, 1);
    b.due("felt(2, 0)", x.felt(2, 0), NO_SUCH);
    b.due("between(0, 2)", x.between(0, 2), NONE);
    b.due("between(7, 8)", x.between(7, 8), NONE);
    b.due("feel(7, 8, 1, 1, 0), the next number", x.feel(7, 8, 1, 1, 0), 2);
    b.due("set(0, 8, 9), its PRICE", x.set(0, 8, 9), 9);
    b.due("set(1, 2, NONE), LED", x.set(1, 2, NONE), 1);
    b.due("set(1, 8, NONE), LED", x.set(1, 8, NONE), NONE);
    b.due("count(4), THE RULE", x.count(4), 1);
    // the rest is none of what it keeps
    Check.text(x, "cost 8;let 1;");
    Check.camping(x, 0, 0, 0, 0, 0, 0, 0, 0, 0, 0);
    x.feed(2, 0);
    b.due("back()", x.back(), 2);
    int[] counts = {9, 2, 3, 2, 1, 1, 1, 7};
    for (int what = 0; what < counts.length; what++) {
      b.due("count(" + what + ")", x.count(what), counts[what]);
    }
    b.due("camping(0, 3) by the SHEET as it is", x.camping(0, 3), 1);
  }

  private static void imageOfWhoCame(Boundary b) {
    b.says("Terms 4", "(not PEOPLE that came since: their PRICES, LED stay).");
    TwoCamps x = Check.told(2, "a+b5;");
    x.image();
    x.person(33);
    x.set(1, 2, 1);
    x.feel(2, 0, 1, 1, 0);
    b.due("back()", x.back(), 1);
    b.due("count(0)", x.count(0), 3);
    b.due("set(0, 2, 44)", x.set(0, 2, 44), 33);
    b.due("set(1, 2, 0)", x.set(1, 2, 0), 1);
    b.due("between(0, 2)", x.between(0, 2), NONE);
    b.due("back()", x.back(), 1);
    b.due("set(0, 2, 55)", x.set(0, 2, 55), 44);
    b.due("set(1, 2, 0)", x.set(1, 2, 0), 0);
    TwoCamps nobody = new TwoCamps();
    nobody.image();
    for (int p = 0; p < 9; p++) {
      nobody.person(90 + p);
      nobody.set(1, p, 1);
    }
    nobody.feel(0, 8, 1, 1, 0);
    b.due("back() to nobody", nobody.back(), 0);
    b.due("count(0)", nobody.count(0), 9);
    for (int p = 0; p < 9; p++) {
      b.due("set(0, " + p + ", 0)", nobody.set(0, p, 0), 90 + p);
      b.due("set(1, " + p + ", 0)", nobody.set(1, p, 0), 1);
    }
  }

  private static void promise28(Boundary b) {
    b.says("Promise 28", "MEET: part 0 above, 1 below the line, in lowest terms (0 by 1).");
    meet(b, Check.people(2), 0, 1, 1, 2);
    meet(b, Check.people(9), 7, 8, 1, 2);
    meet(b, Check.told(3, "a+b1;b+c1;"), 0, 2, 1, 1);
    meet(b, Check.told(3, "a+b1;b-c1;"), 0, 2, 0, 1);
    meet(b, Check.told(9, "a+b1;b-c1;"), 0, 2, 0, 1);
    // of four who hate two and two are together: three ways
    meet(b, Check.told(6, "a-b1;a-c1;a-d1;b-c1;b-d1;c-d1;d+e9;"), 0, 4, 1, 3);
    TwoCamps x = Check.told(4, "a+b1;");
    TwoCamps none = Check.told(4, NO_WAY);
    b.says("Promise 28", "NO: PEOPLE (alike, too), part;");
    int[][] no = {{0, 0, 0}, {3, 3, 1}, {-1, 0, 0}, {0, -1, 0}, {4, 0, 1}, {0, 4, 0}, {LOW, 0, 0}, {0, HIGH, 1}, {0, 3, -1}, {0, 3, 2}, {0, 3, LOW}, {0, 3, HIGH}};
    for (int[] r : no) {
      b.due("meet(" + r[0] + ", " + r[1] + ", " + r[2] + ")", x.meet(r[0], r[1], r[2]), NO);
    }
    b.due("meet(0, 1, 0) of nobody", new TwoCamps().meet(0, 1, 0), NO);
    b.due("meet(0, 0, 0) of one", Check.people(1).meet(0, 0, 0), NO);
    b.says("Promise 28", "they have a FEELING;");
    meet(b, x, 0, 1, NO, NO);
    b.says("Promise 28", "there are none of ALL.");
    meet(b, none, 0, 3, NO, NO);
    none.feel(0, 1, 1, 1, 0);
    meet(b, none, 0, 3, 1, 2);
  }

  private static void promise29(Boundary b) {
    TwoCamps x = BoundariesOfPeople.all36(1, 0);
    b.says("Promise 29", "EDGE.");
    b.due("edge(0) of 36 likings: one against eight", x.edge(0), 8);
    b.due("edge(35) of 36 likings", x.edge(35), 8);
    x.feel(7, 8, -1, 99, 1);
    b.due("edge(35), a hatred that can't be WRONG", x.edge(35), NO_OTHER);
    b.due("edge(0), h and i being apart", x.edge(0), 6);
    b.says("Promise 29", "NO: no such FEELING,");
    for (int feeling : new int[] {-1, 36, LOW, HIGH}) {
      b.due("edge(" + feeling + ")", x.edge(feeling), NO);
    }
    b.due("edge(1) of one", Check.told(2, "a+b1;").edge(1), NO);
    b.due("edge(0) of none", Check.people(2).edge(0), NO);
    b.due("edge(0) of nobody", new TwoCamps().edge(0), NO);
    b.says("Promise 29", "there are none of ALL.");
    TwoCamps none = Check.told(3, NO_WAY);
    for (int f = 0; f < 3; f++) {
      b.due("edge(" + f + ")", none.edge(f), NO);
    }
  }

  private static void promise30(Boundary b) {
    b.says("Promise 30", "BRING (bits).");
    bring(b, Check.told(9, "a+i1;"), 0, 0, 8, 0, 8, 0, 0);
    bring(b, Check.told(9, "i+b1;h-c2;"), 4, 1, 7, 4 | 256);
    TwoCamps x = Check.told(3, "a-b5;b+c5;");
    TwoCamps none = Check.told(4, NO_WAY);
    b.says("Promise 30", "BAD: PEOPLE (alike, too);");
    int[][] bad = {{0, 0}, {2, 2}, {-1, 0}, {0, -1}, {3, 0}, {0, 3}, {3, 3}, {LOW, 0}, {0, HIGH}};
    for (int[] r : bad) {
      b.due("bring(" + r[0] + ", " + r[1] + ")", x.bring(r[0], r[1]), BAD);
    }
    b.due("bring(0, 0), BAD ahead of STATE", none.bring(0, 0), BAD);
    b.due("bring(0, 4), BAD ahead of STATE", none.bring(0, 4), BAD);
    b.due("bring(0, 1) of nobody", new TwoCamps().bring(0, 1), BAD);
    b.says("Promise 30", "STATE: there are none of ALL,");
    b.due("bring(0, 1)", none.bring(0, 1), STATE);
    b.due("bring(0, 3)", none.bring(0, 3), STATE);
    b.says("Promise 30", "or they are in two camps in the first of ALL;");
    b.due("bring(0, 1)", x.bring(0, 1), STATE);
    b.due("bring(2, 0)", x.bring(2, 0), STATE);
    b.due("bring(1, 2), together in it", x.bring(1, 2), 0);
    // together in the others of ALL
    b.due("bring(0, 1) of three who hate", Check.told(3, "a-b5;b-c5;c-a5;").bring(0, 1), STATE);
    b.says("Promise 30", "NONE.");
    b.due("bring(0, 2) of three who hate", Check.told(3, "a-b5;b-c5;c-a5;").bring(0, 2), NONE);
    b.due("bring(0, 1) of two without a FEELING", Check.people(2).bring(0, 1), NONE);
  }

  private static void promises31And32(Boundary b) {
    b.says("Promise 32", "STATE: there is none.");
    TwoCamps x = new TwoCamps();
    b.due("back()", x.back(), STATE);
    x.person(1);
    x.person(2);
    b.due("back()", x.back(), STATE);
    b.says("Promise 31", "AN IMAGE is kept: how many FEELINGS.");
    b.due("image() of nobody", new TwoCamps().image(), 0);
    b.due("image()", x.image(), 0);
    x.feel(0, 1, 1, 5, 0);
    b.due("image(), another one", x.image(), 1);
    x.feel(0, 1, -1, 9, 3);
    b.due("image() of 36", BoundariesOfPeople.all36(1, 0).image(), 36);
    b.says("Promise 32", "All that it keeps is as in THE IMAGE: how many FEELINGS.");
    b.due("back() to the later one", x.back(), 1);
    BoundariesOfPeople.row(b, x, 0, 0, 1, 1, 5, 0, 0, 5, 1);
    x.set(0, 0, 77);
    b.due("back() again", x.back(), 1);
    b.due("set(0, 0, 1)", x.set(0, 0, 1), 1);
    TwoCamps all = BoundariesOfPeople.all36(-1, 0);
    all.image();
    for (int p = 0; p < 9; p++) {
      all.step(p);
    }
    b.due("back() behind a ROUND", all.back(), 36);
    b.due("count(6)", all.count(6), 36);
    b.due("back() with nothing changed", all.back(), 36);
    b.due("count(6)", all.count(6), 36);
    TwoCamps nobody = new TwoCamps();
    nobody.image();
    b.due("back() of nobody", nobody.back(), 0);
    b.due("count(0)", nobody.count(0), 0);
  }

  private static void counts(Boundary b, TwoCamps[] objects, int what, int... due) {
    for (int i = 0; i < objects.length; i++) {
      b.due("count(" + what + ") of object " + i, objects[i].count(what), due[i]);
    }
  }

  private static void promise33(Boundary b) {
    TwoCamps full = BoundariesOfPeople.all36(-1, 0);
    for (int text = 1; text <= 5; text++) {
      Check.text(full, "cost 1;let 1;");
    }
    full.force(5);
    Check.feed(full, "?".repeat(160));
    for (int c = 0; c < 10; c++) {
      Check.camping(full, 0, 0, 0, 0, 0, 0, 0, 0, 0, 0);
    }
    TwoCamps some = Check.told(5, "a+b1;c-d1;");
    some.feed(1, 0);
    TwoCamps[] objects = {new TwoCamps(), some, full};
    b.says("Promise 33", "How many: 0 PEOPLE,");
    counts(b, objects, 0, 0, 5, 9);
    b.says("Promise 33", "1 FEELINGS,");
    counts(b, objects, 1, 0, 2, 36);
    b.says("Promise 33", "2 TEXTS,");
    counts(b, objects, 2, 1, 1, 6);
    b.says("Promise 33", "3 bytes of THE TAPE,");
    counts(b, objects, 3, 0, 1, 160);
    b.says("Promise 33", "4 THE RULE,");
    counts(b, objects, 4, 0, 0, 5);
    b.says("Promise 33", "5 CAMPINGS,");
    counts(b, objects, 5, 0, 0, 10);
    b.says("Promise 33", "6 hatreds,");
    counts(b, objects, 6, 0, 1, 36);
    b.says("Promise 33", "7 PARTS.");
    counts(b, objects, 7, 0, 3, 1);
    b.due("count(7) of nine without FEELINGS", Check.people(9).count(7), 9);
    b.says("Promise 33", "BAD.");
    for (int what : new int[] {-1, 8, LOW, HIGH}) {
      counts(b, objects, what, BAD, BAD, BAD);
    }
  }
}
