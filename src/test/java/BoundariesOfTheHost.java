/** Terms 4 (SHEETS) and promises 34 to 38. */
final class BoundariesOfTheHost {
  private static final int BAD = Boundary.BAD, NOTHING = Boundary.NOTHING, OUTSIDE = Boundary.OUTSIDE, OTHER_SORT = Boundary.OTHER_SORT;
  private static final int BELOW_ZERO = Boundary.BELOW_ZERO, LOW = Boundary.LOW, HIGH = Boundary.HIGH;
  private static final int BYTES = 0, SHORTS = 1, INTS = 2, MISSING = -1;

  private BoundariesOfTheHost() {
  }

  static void ask(Boundary b) {
    sheets(b);
    promise34(b);
    promise34Refused(b);
    promise35(b);
    promise35Refused(b);
    promise36(b);
    promise36AsTheyWere(b);
    promise36Refused(b);
    promise37(b);
    promise37Others(b);
    promise37Refused(b);
    promise37Outside(b);
    promise38(b);
  }

  private static void sheets(Boundary b) {
    b.says("Terms 4", "SHEETS 0 .. 3 are rows of numbers, or missing (as all are at first):");
    TwoCamps x = Check.people(1);
    for (int sheet = 0; sheet < 4; sheet++) {
      b.due("cell(" + sheet + ", 0, 0), missing", x.cell(sheet, 0, 0), NOTHING);
      b.due("camping(0, " + sheet + "), missing", x.camping(0, sheet), NOTHING);
      b.due("sheet(" + sheet + ", 0, 1)", x.sheet(sheet, BYTES, 1), 1);
      b.due("cell(" + sheet + ", 0, 0)", x.cell(sheet, 0, 0), 1);
    }
    b.due("sheet(4, 0, 1)", x.sheet(4, BYTES, 1), BAD);
    b.due("sheet(-1, 0, 1)", x.sheet(-1, BYTES, 1), BAD);
    b.says("Terms 4", "of sort 0 bytes, 1 shorts, 2 ints.");
    for (int sort = 0; sort < 3; sort++) {
      b.due("sheet(0, " + sort + ", 5)", x.sheet(0, sort, 5), 1);
      for (int taken = 0; taken < 3; taken++) {
        b.due("feels(0, " + taken + ", 0, 0) of sort " + sort, x.feels(0, taken, 0, 0), taken == sort ? 0 : OTHER_SORT);
      }
    }
    b.due("sheet(0, 3, 1)", x.sheet(0, 3, 1), BAD);
    b.due("sheet(0, -2, 1)", x.sheet(0, -2, 1), BAD);
  }

  private static void promise34(Boundary b) {
    b.says("Promise 34", "A SHEET becomes a row of n of a sort, all 0, or missing (sort -1: n does not matter): 1.");
    for (int sort = 0; sort < 3; sort++) {
      for (int n : new int[] {0, 1, 39, 40}) {
        TwoCamps x = new TwoCamps();
        b.due("sheet(3, " + sort + ", " + n + ")", x.sheet(3, sort, n), 1);
        b.due("cell(3, " + n + ", 1) of " + n, x.cell(3, n, 1), OUTSIDE);
        b.due("cell(3, " + (n - 1) + ", 1) of " + n, x.cell(3, n - 1, 1), n == 0 ? OUTSIDE : 1);
        b.due("cell(3, 0, 1) of " + n, x.cell(3, 0, 1), n == 0 ? OUTSIDE : 1);
      }
    }
    TwoCamps x = Check.people(9);
    for (int sort = 0; sort < 3; sort++) {
      // what stood in it is gone: nine camps are 0 again
      x.sheet(0, sort, 40);
      for (int i = 0; i < 40; i++) {
        x.cell(0, i, 3);
      }
      x.sheet(0, sort, 9);
      int camping = x.camping(1, 0);
      b.due("cost() of all 0, sort " + sort, x.cost(camping), 0);
      b.due("camped(.., 2) of all 0, sort " + sort, x.camped(camping, 2), 1);
    }
    for (int n : new int[] {0, 1, 41, -1, LOW, HIGH}) {
      b.due("sheet(0, -1, " + n + ")", x.sheet(0, MISSING, n), 1);
      b.due("cell(0, 0, 0), missing", x.cell(0, 0, 0), NOTHING);
      x.sheet(0, BYTES, 1);
      b.due("sheet(0, -1, " + n + ")", x.sheet(0, MISSING, n), 1);
      b.due("cell(0, 0, 0), missing", x.cell(0, 0, 0), NOTHING);
      b.due("camping(0, 0), missing", x.camping(0, 0), NOTHING);
    }
  }

  private static void promise34Refused(Boundary b) {
    TwoCamps x = Check.people(1);
    x.sheet(0, BYTES, 1);
    x.cell(0, 0, 2);
    b.says("Promise 34", "BAD: no such SHEET, sort;");
    int[][] bad = {{-1, 0, 1}, {4, 0, 1}, {LOW, 0, 1}, {HIGH, 0, 1}, {4, -1, 0}, {-1, -1, 0}, {0, -2, 1}, {0, 3, 1}, {0, LOW, 1}, {0, HIGH, 1}};
    for (int[] r : bad) {
      b.due("sheet(" + r[0] + ", " + r[1] + ", " + r[2] + ")", x.sheet(r[0], r[1], r[2]), BAD);
    }
    b.due("sheet(4, 0, -1), BAD ahead of -14", x.sheet(4, BYTES, -1), BAD);
    b.due("sheet(0, 3, -1), BAD ahead of -14", x.sheet(0, 3, -1), BAD);
    b.says("Promise 34", "n above 40;");
    for (int n : new int[] {41, 100, HIGH}) {
      for (int sort = 0; sort < 3; sort++) {
        b.due("sheet(0, " + sort + ", " + n + ")", x.sheet(0, sort, n), BAD);
      }
    }
    b.says("Promise 34", "-14.");
    for (int n : new int[] {-1, -40, LOW}) {
      for (int sort = 0; sort < 3; sort++) {
        b.due("sheet(0, " + sort + ", " + n + ")", x.sheet(0, sort, n), BELOW_ZERO);
        b.due("sheet(1, " + sort + ", " + n + ")", x.sheet(1, sort, n), BELOW_ZERO);
      }
    }
    b.due("camping(1, 0) by the SHEET as it was", x.camping(1, 0), 0);
    b.due("cost(0), in camp 2", x.cost(0), 5000);
    b.due("cell(1, 0, 0), missing as it was", x.cell(1, 0, 0), NOTHING);
  }

  /** What an item of a sort is when it became v: told by the camp, the SIGN or the STRENGTH that it is taken for. */
  private static void becomes(Boundary b, int sort, int v, int due) {
    TwoCamps x = Check.people(2);
    x.sheet(0, sort, 5);
    x.cell(0, 1, 1);
    x.cell(0, 2, 1);
    b.due("cell(0, 3, " + v + ") of sort " + sort, x.cell(0, 3, v), 1);
    boolean isStrength = due >= 1 && due <= 99;
    b.due("feels() with " + v + " as STRENGTH, of sort " + sort, x.feels(0, sort, 0, 1), isStrength ? 1 : 0);
    if (isStrength) {
      b.due("felt(0, 3)", x.felt(0, 3), due);
    }
    x.cell(0, 3, 5);
    x.cell(0, 2, v);
    boolean isSign = due == 1 || due == -1;
    b.due("feels() with " + v + " as SIGN, of sort " + sort, x.feels(0, sort, 0, 1), isSign ? 1 : 0);
    if (isSign) {
      b.due("felt(0, 2)", x.felt(0, 2), due);
    }
  }

  private static void promise35(Boundary b) {
    b.says("Promise 35", "Item i of a SHEET becomes v (of bytes, shorts its lowest 8, 16 bits): 1.");
    int[] values = {0, 1, -1, 99, 100, 127, 128, 255, 256, 257, -255, -256, -257, 32767, 32768, 65535, 65536, 65537, 65536 + 99, -65535, -65537,
        256 * 77 + 42, 65536 * 77 + 42, LOW, LOW + 1, LOW + 255, LOW + 65535, HIGH, HIGH - 254, HIGH - 65534};
    for (int v : values) {
      becomes(b, BYTES, v, (byte) v);
      becomes(b, SHORTS, v, (short) v);
      becomes(b, INTS, v, v);
    }
    // each item for itself
    TwoCamps x = Check.people(3);
    x.sheet(2, INTS, 3);
    b.due("cell(2, 0, 3)", x.cell(2, 0, 3), 1);
    b.due("cell(2, 2, 9)", x.cell(2, 2, 9), 1);
    x.camping(1, 2);
    b.due("cost(0) of 3, 0, 9", x.cost(0), 12000);
    b.due("move(0, 1, 0) of 3, 0, 9", x.move(0, 1, 0), 0);
  }

  private static void promise35Refused(Boundary b) {
    TwoCamps x = Check.people(3);
    x.sheet(0, BYTES, 3);
    b.says("Promise 35", "BAD: no such SHEET;");
    for (int sheet : new int[] {-1, 4, LOW, HIGH}) {
      b.due("cell(" + sheet + ", 0, 0)", x.cell(sheet, 0, 0), BAD);
      b.due("cell(" + sheet + ", -1, 0), BAD ahead of -12", x.cell(sheet, -1, 0), BAD);
    }
    b.says("Promise 35", "-11;");
    for (int sheet = 1; sheet < 4; sheet++) {
      for (int i : new int[] {0, -1, 40, LOW, HIGH}) {
        b.due("cell(" + sheet + ", " + i + ", 0), -11 ahead of -12", x.cell(sheet, i, 0), NOTHING);
      }
    }
    b.says("Promise 35", "-12.");
    for (int i : new int[] {3, 4, 40, -1, LOW, HIGH}) {
      b.due("cell(0, " + i + ", 1)", x.cell(0, i, 1), OUTSIDE);
    }
    x.sheet(1, INTS, 0);
    b.due("cell(1, 0, 0) of none", x.cell(1, 0, 0), OUTSIDE);
    x.camping(0, 0);
    b.due("camped(0, 2), as it was", x.camped(0, 2), 1);
  }

  /** An item that is 1 .. 99, as it is read from it for a STRENGTH by SHEET 3; else 0. */
  private static int item(TwoCamps x, int sheet, int sort, int i) {
    x.sheet(3, sort, 5);
    x.cell(3, 1, 1);
    x.cell(3, 2, 1);
    x.copy(sheet, i, 3, 3, 1);
    return x.feels(3, sort, 0, 1) == 1 ? x.felt(0, 3) : 0;
  }

  private static void items(Boundary b, TwoCamps x, int sheet, int sort, int from, int... due) {
    for (int i = 0; i < due.length; i++) {
      b.due("item " + (from + i) + " of SHEET " + sheet, item(x, sheet, sort, from + i), due[i]);
    }
  }

  /** SHEET 0 has so many items, 1, 2, 3 .., SHEET 1 as many of 0. */
  private static TwoCamps counted(int sort, int size) {
    TwoCamps x = Check.people(2);
    x.sheet(0, sort, size);
    x.sheet(1, sort, size);
    for (int i = 0; i < size; i++) {
      x.cell(0, i, i + 1);
    }
    return x;
  }

  private static void promise36(Boundary b) {
    b.says("Promise 36", "n numbers of a SHEET, from item i on, come to another one's item j on");
    for (int sort = 0; sort < 3; sort++) {
      TwoCamps x = counted(sort, 5);
      b.due("copy(0, 1, 1, 2, 2), sort " + sort, x.copy(0, 1, 1, 2, 2), 2);
      items(b, x, 1, sort, 0, 0, 0, 2, 3, 0);
      items(b, x, 0, sort, 0, 1, 2, 3, 4, 5);
      b.due("copy(0, 0, 1, 0, 5), sort " + sort, x.copy(0, 0, 1, 0, 5), 5);
      items(b, x, 1, sort, 0, 1, 2, 3, 4, 5);
      x.cell(0, 0, 77);
      items(b, x, 1, sort, 0, 1);
      TwoCamps full = counted(sort, 40);
      b.due("copy(0, 0, 1, 0, 40), sort " + sort, full.copy(0, 0, 1, 0, 40), 40);
      items(b, full, 1, sort, 38, 39, 40);
      b.due("copy(0, 39, 1, 0, 1), sort " + sort, full.copy(0, 39, 1, 0, 1), 1);
      b.due("copy(0, 0, 1, 39, 1), sort " + sort, full.copy(0, 0, 1, 39, 1), 1);
      items(b, full, 1, sort, 0, 40, 2);
      items(b, full, 1, sort, 38, 39, 1);
    }
    TwoCamps x = counted(BYTES, 3);
    for (int i = 0; i <= 3; i++) {
      b.due("copy(0, " + i + ", 1, " + (3 - i) + ", 0)", x.copy(0, i, 1, 3 - i, 0), 0);
    }
    items(b, x, 1, BYTES, 0, 0, 0, 0);
    x.sheet(0, BYTES, 0);
    b.due("copy(0, 0, 0, 0, 0) of none", x.copy(0, 0, 0, 0, 0), 0);
    // from a longer one to a shorter one
    TwoCamps y = counted(INTS, 4);
    y.sheet(1, INTS, 2);
    b.due("copy(0, 2, 1, 0, 2)", y.copy(0, 2, 1, 0, 2), 2);
    items(b, y, 1, INTS, 0, 3, 4);
  }

  private static void promise36AsTheyWere(Boundary b) {
    b.says("Promise 36", "(as they were): n.");
    for (int sort = 0; sort < 3; sort++) {
      TwoCamps up = counted(sort, 5);
      b.due("copy(0, 0, 0, 1, 4), sort " + sort, up.copy(0, 0, 0, 1, 4), 4);
      items(b, up, 0, sort, 0, 1, 1, 2, 3, 4);
      TwoCamps down = counted(sort, 5);
      b.due("copy(0, 1, 0, 0, 4), sort " + sort, down.copy(0, 1, 0, 0, 4), 4);
      items(b, down, 0, sort, 0, 2, 3, 4, 5, 5);
      TwoCamps there = counted(sort, 5);
      b.due("copy(0, 0, 0, 0, 5), sort " + sort, there.copy(0, 0, 0, 0, 5), 5);
      items(b, there, 0, sort, 0, 1, 2, 3, 4, 5);
    }
  }

  private static void copies(Boundary b, TwoCamps x, int due, int[]... rows) {
    for (int[] r : rows) {
      String call = "copy(" + r[0] + ", " + r[1] + ", " + r[2] + ", " + r[3] + ", " + r[4] + ")";
      b.due(call, x.copy(r[0], r[1], r[2], r[3], r[4]), due);
    }
  }

  private static void promise36Refused(Boundary b) {
    TwoCamps x = counted(BYTES, 3);
    b.says("Promise 36", "BAD: no such SHEET;");
    copies(b, x, BAD, new int[][] {{-1, 0, 0, 0, 1}, {4, 0, 0, 0, 1}, {0, 0, -1, 0, 1}, {0, 0, 4, 0, 1}, {LOW, 0, 0, 0, 1}, {0, 0, HIGH, 0, 1}});
    // ahead of what is missing, and of what is outside
    copies(b, x, BAD, new int[][] {{4, 0, 3, 0, 1}, {3, 0, 4, 0, 1}, {4, -1, 0, 0, 1}, {0, 0, -1, 9, -1}});
    b.says("Promise 36", "-11;");
    copies(b, x, NOTHING, new int[][] {{3, 0, 0, 0, 1}, {0, 0, 3, 0, 1}, {3, 0, 3, 0, 0}, {3, 0, 2, 0, 0}, {0, 0, 3, 0, 0}});
    // ahead of what is outside
    copies(b, x, NOTHING, new int[][] {{3, -1, 0, 0, 1}, {0, 9, 3, 9, -1}});
    b.says("Promise 36", "-13: they are of unlike sorts;");
    x.sheet(2, SHORTS, 3);
    x.sheet(3, INTS, 3);
    copies(b, x, OTHER_SORT, new int[][] {{0, 0, 2, 0, 1}, {2, 0, 0, 0, 1}, {0, 0, 3, 0, 0}, {3, 0, 2, 0, 1}});
    // ahead of what is outside
    copies(b, x, OTHER_SORT, new int[][] {{0, -1, 2, 0, 1}, {0, 0, 3, 4, 1}, {2, 0, 3, 0, -1}});
    b.says("Promise 36", "-12 (also with n below 0).");
    copies(b, x, OUTSIDE, new int[][] {{0, 0, 1, 0, -1}, {0, 0, 1, 0, LOW}, {0, 0, 0, 0, -1}, {0, 3, 1, 3, -1}, {0, -1, 1, 0, 1}, {0, 0, 1, -1, 1},
        {0, -1, 1, -1, 0}, {0, 3, 1, 0, 1}, {0, 0, 1, 3, 1}, {0, 0, 1, 0, 4}, {0, 1, 1, 0, 3}, {0, 0, 1, 1, 3}, {0, 4, 1, 0, 0}, {0, 0, 1, 4, 0},
        {0, LOW, 1, 0, 1}, {0, HIGH, 1, 0, 1}, {0, 0, 1, HIGH, 1}, {0, 1, 1, 0, HIGH}, {0, 0, 1, 1, HIGH}, {0, HIGH, 1, HIGH, HIGH}});
    items(b, x, 0, BYTES, 0, 1, 2, 3);
    items(b, x, 1, BYTES, 0, 0, 0, 0);
  }

  /** A SHEET by its numbers. */
  private static void sheet(TwoCamps x, int sheet, int sort, int... numbers) {
    x.sheet(sheet, sort, numbers.length);
    for (int i = 0; i < numbers.length; i++) {
      x.cell(sheet, i, numbers[i]);
    }
  }

  /** Eight FEELINGS of nine PEOPLE: a's, of STRENGTHS 1 .. 8. */
  private static int[] eight() {
    int[] numbers = new int[40];
    for (int f = 0; f < 8; f++) {
      int[] feeling = {f + 1, 0, f % 2 == 0 ? 1 : -1, f + 1, f % 4};
      System.arraycopy(feeling, 0, numbers, 5 * f, 5);
    }
    return numbers;
  }

  private static void promise37(Boundary b) {
    b.says("Promise 37", "FEELINGS by a SHEET that is taken for one of a sort: from one on, five by five (as of feel()), n of them (0 .. 8):");
    for (int sort = 0; sort < 3; sort++) {
      for (int n = 0; n <= 8; n++) {
        TwoCamps x = Check.people(9);
        sheet(x, 1, sort, eight());
        b.due("feels(1, " + sort + ", 0, " + n + ")", x.feels(1, sort, 0, n), n);
        b.due("count(1)", x.count(1), n);
        for (int f = 0; f < n; f++) {
          BoundariesOfPeople.row(b, x, f, 0, f + 1, f % 2 == 0 ? 1 : -1, f + 1, f % 4 / 2, f % 2);
        }
      }
    }
    TwoCamps y = Check.people(9);
    sheet(y, 0, BYTES, eight());
    b.due("feels(0, 0, 35, 1), the last five", y.feels(0, BYTES, 35, 1), 1);
    BoundariesOfPeople.row(b, y, 0, 0, 8, -1, 8);
    b.due("feels(0, 0, 5, 2)", y.feels(0, BYTES, 5, 2), 2);
    BoundariesOfPeople.row(b, y, 1, 0, 2, -1, 2);
    BoundariesOfPeople.row(b, y, 2, 0, 3, 1, 3);
    // one place further on there stand 0 and -1, and -1 is no PERSON
    b.due("feels(0, 0, 6, 1)", y.feels(0, BYTES, 6, 1), 0);
    sheet(y, 2, INTS, 99, 5, 6, 1, 50, 3, 99);
    b.due("feels(2, 2, 1, 1), from one on that is no fifth", y.feels(2, INTS, 1, 1), 1);
    BoundariesOfPeople.row(b, y, 3, 5, 6, 1, 50, 1, 1);
  }

  private static void promise37Others(Boundary b) {
    b.says("Promise 37", "how many came (others are left out).");
    int[][] others = {{0, 0, 1, 1, 0}, {0, 3, 1, 1, 0}, {3, 0, 1, 1, 0}, {-1, 0, 1, 1, 0}, {0, 1, 0, 1, 0}, {0, 1, 2, 1, 0}, {0, 1, -2, 1, 0}, {0, 1, 1, 0, 0},
        {0, 1, 1, 100, 0}, {0, 1, 1, 1, -1}, {0, 1, 1, 1, 4}};
    for (int[] other : others) {
      TwoCamps x = Check.people(3);
      sheet(x, 0, INTS, 0, 1, 1, 7, 0, other[0], other[1], other[2], other[3], other[4], 1, 2, -1, 9, 3);
      b.due("feels(0, 2, 0, 3), " + java.util.Arrays.toString(other) + " left out", x.feels(0, INTS, 0, 3), 2);
      b.due("feels(0, 2, 5, 1)", x.feels(0, INTS, 5, 1), 0);
      b.due("count(1)", x.count(1), 2);
      BoundariesOfPeople.row(b, x, 0, 0, 1, 1, 7, 0, 0);
      BoundariesOfPeople.row(b, x, 1, 1, 2, -1, 9, 1, 1);
    }
    TwoCamps x = Check.people(3);
    sheet(x, 0, INTS, 0, 1, 1, 7, 0, 1, 0, -1, 8, 3);
    b.due("feels(0, 2, 0, 2), the second tells the first anew", x.feels(0, INTS, 0, 2), 2);
    b.due("count(1)", x.count(1), 1);
    BoundariesOfPeople.row(b, x, 0, 0, 1, -1, 8, 1, 1);
    TwoCamps nobody = new TwoCamps();
    sheet(nobody, 0, INTS, eight());
    b.due("feels(0, 2, 0, 8) of nobody", nobody.feels(0, INTS, 0, 8), 0);
    TwoCamps all = BoundariesOfPeople.all36(1, 0);
    sheet(all, 0, INTS, eight());
    b.due("feels(0, 2, 0, 8) with 36 FEELINGS", all.feels(0, INTS, 0, 8), 8);
    b.due("count(1)", all.count(1), 36);
    b.due("felt(7, 3)", all.felt(7, 3), 8);
  }

  private static void feels(Boundary b, TwoCamps x, int due, int[]... rows) {
    for (int[] r : rows) {
      b.due("feels(" + r[0] + ", " + r[1] + ", " + r[2] + ", " + r[3] + ")", x.feels(r[0], r[1], r[2], r[3]), due);
    }
  }

  private static void promise37Refused(Boundary b) {
    TwoCamps x = Check.people(9);
    sheet(x, 0, SHORTS, eight());
    b.says("Promise 37", "BAD: no such SHEET, sort, n;");
    feels(b, x, BAD, new int[][] {{-1, 1, 0, 1}, {4, 1, 0, 1}, {LOW, 1, 0, 1}, {HIGH, 1, 0, 1}, {0, -1, 0, 1}, {0, 3, 0, 1}, {0, LOW, 0, 1}, {0, HIGH, 0, 1},
        {0, 1, 0, -1}, {0, 1, 0, 9}, {0, 1, 0, LOW}, {0, 1, 0, HIGH}});
    // ahead of another sort, of what is missing, of what is outside
    feels(b, x, BAD, new int[][] {{0, 0, 0, 9}, {0, 2, 0, -1}, {1, 3, 0, 1}, {1, -1, 0, 1}, {1, 1, 0, 9}, {4, 0, -1, 1}, {0, 1, -1, 9}});
    b.says("Promise 37", "-13;");
    feels(b, x, OTHER_SORT, new int[][] {{0, 0, 0, 1}, {0, 2, 0, 1}, {0, 0, 0, 0}, {0, 2, 0, 8}});
    // ahead of what is outside
    feels(b, x, OTHER_SORT, new int[][] {{0, 0, -1, 1}, {0, 2, 40, 1}});
    b.says("Promise 37", "-11;");
    feels(b, x, NOTHING, new int[][] {{1, 0, 0, 1}, {2, 1, 0, 1}, {3, 2, 0, 1}, {1, 0, 0, 0}});
    // ahead of what is outside
    feels(b, x, NOTHING, new int[][] {{1, 0, -1, 1}, {1, 2, HIGH, 8}});
    b.due("count(1)", x.count(1), 0);
  }

  private static void promise37Outside(Boundary b) {
    b.says("Promise 37", "-12: what stood ahead came.");
    int[][] rows = {{0, 8, 39, 7}, {0, 8, 36, 7}, {0, 8, 35, 7}, {0, 2, 9, 1}, {0, 2, 5, 1}, {0, 1, 4, 0}, {0, 1, 0, 0}, {5, 8, 40, 7}, {36, 1, 40, 0}, {40, 1, 40, 0},
        {39, 1, 40, 0}, {41, 1, 40, 0}, {-1, 1, 40, 0}, {-5, 2, 40, 0}, {LOW, 8, 40, 0}, {HIGH, 1, 40, 0}, {HIGH - 4, 8, 40, 0}, {HIGH - 39, 8, 40, 0}};
    for (int[] r : rows) {
      TwoCamps x = Check.people(9);
      sheet(x, 0, BYTES, java.util.Arrays.copyOf(eight(), r[2]));
      b.due("feels(0, 0, " + r[0] + ", " + r[1] + ") of " + r[2], x.feels(0, BYTES, r[0], r[1]), OUTSIDE);
      b.due("count(1), what came by feels(0, 0, " + r[0] + ", " + r[1] + ") of " + r[2], x.count(1), r[3]);
      for (int f = 0; f < r[3]; f++) {
        b.due("felt(" + f + ", 3)", x.felt(f, 3), f + 1 + r[0] / 5);
      }
    }
    TwoCamps x = Check.people(9);
    x.sheet(0, BYTES, 0);
    for (int from : new int[] {0, 1, -1, 40, LOW, HIGH}) {
      b.due("feels(0, 0, " + from + ", 0), no place is asked for", x.feels(0, BYTES, from, 0), 0);
    }
  }

  private static void promise38(Boundary b) {
    b.says("Promise 38", "A CAMPING taken for one of KIND k (0 .. 5), or one under that one (also by others between): how many PEOPLE it told.");
    String[] above = {"0", "10", "20", "320", "410", "510"};
    for (int people : new int[] {0, 1, 9}) {
      TwoCamps x = Check.people(people);
      for (int kind = 0; kind < 6; kind++) {
        Check.camping(x, kind, new int[people]);
      }
      x.person(1);
      for (int kind = 0; kind < 6; kind++) {
        for (char k : above[kind].toCharArray()) {
          b.due("taken(" + kind + ", " + k + ") of " + people + " PEOPLE", x.taken(kind, k - '0'), people);
        }
      }
    }
    TwoCamps x = Check.people(2);
    for (int kind = 0; kind < 6; kind++) {
      Check.camping(x, kind, 0, 1);
    }
    b.says("Promise 38", "BAD: k;");
    for (int k : new int[] {-1, 6, LOW, HIGH}) {
      b.due("taken(0, " + k + ")", x.taken(0, k), BAD);
      b.due("taken(6, " + k + "), BAD ahead of -11", x.taken(6, k), BAD);
    }
    b.says("Promise 38", "-11: no such CAMPING;");
    for (int camping : new int[] {-1, 6, 10, LOW, HIGH}) {
      for (int k = 0; k < 6; k++) {
        b.due("taken(" + camping + ", " + k + ")", x.taken(camping, k), NOTHING);
      }
    }
    b.due("taken(0, 0) of nobody", new TwoCamps().taken(0, 0), NOTHING);
    b.says("Promise 38", "-13.");
    for (int kind = 0; kind < 6; kind++) {
      for (int k = 0; k < 6; k++) {
        if (above[kind].indexOf('0' + k) < 0) {
          b.due("taken(" + kind + ", " + k + ")", x.taken(kind, k), OTHER_SORT);
        }
      }
    }
  }
}
