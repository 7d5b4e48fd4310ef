/** Promises 1 to 6: people, feelings. */
public final class PeopleTest {
  private static final Check check = new Check();
  private static final int LOW = Integer.MIN_VALUE, HIGH = Integer.MAX_VALUE;

  public static void main(String[] args) {
    promise1();
    promise2();
    promise3();
    promise4();
    promise4ToldAnew();
    promise5();
    promise5Rule();
    promise6();
    check.end("PeopleTest");
  }

  private static void promise1() {
    TwoCamps x = new TwoCamps();
    int[] counts = {0, 0, 1, 0, 0, 0, 0, 0};
    for (int what = 0; what < counts.length; what++) {
      check.due("1: count(" + what + ")", x.count(what), counts[what]);
    }
    check.due("1: least()", x.least(), -5);
    check.due("1: peace()", x.peace(), 0);
    check.due("1: ring(-1)", x.ring(-1), -1);
    check.due("1: aside()", x.aside(), 0);
    check.due("1: many(1)", x.many(1), 0);
    check.due("1: doors()", x.doors(), 0);
    check.due("1: threes()", x.threes(), 0);
    check.due("1: ends(0)", x.ends(0), 0);
    check.due("1: part(0)", x.part(0), -2);
    check.due("1: felt(0, 0)", x.felt(0, 0), -5);
    check.due("1: back()", x.back(), -3);
    check.due("1: cost(0)", x.cost(0), TwoCamps.NO);
    for (int sheet = 0; sheet < 4; sheet++) {
      check.due("1: cell(" + sheet + ", 0, 0)", x.cell(sheet, 0, 0), -11);
    }
    TwoCamps other = Check.told(2, "a+b5;");
    check.due("1: one is not the other", x.count(0) + other.count(0), 2);
  }

  private static void promise2() {
    TwoCamps x = new TwoCamps();
    check.due("2: person(-1)", x.person(-1), -2);
    check.due("2: person(100)", x.person(100), -2);
    check.due("2: person(LOW)", x.person(LOW), -2);
    for (int p = 0; p < 9; p++) {
      check.due("2: person(" + 11 * p + ")", x.person(11 * p), p);
    }
    check.due("2: the tenth", x.person(5), -4);
    check.due("2: the tenth, BAD ahead of FULL", x.person(100), -2);
    check.due("2: count(0)", x.count(0), 9);
    check.due("2: its PRICE", x.set(0, 8, 1), 88);
    TwoCamps y = new TwoCamps();
    check.due("2: person(99)", y.person(99), 0);
    check.due("2: person(0)", y.person(0), 1);
    check.due("2: PRICE 99", y.set(0, 0, 1), 99);
    check.due("2: PRICE 0", y.set(0, 1, 1), 0);
    check.due("2: LED none", y.set(1, 1, 1), -1);
  }

  private static void promise3() {
    TwoCamps x = Check.people(2);
    check.due("3: PRICE", x.set(0, 1, 99), 2);
    check.due("3: PRICE anew", x.set(0, 1, 0), 99);
    check.due("3: of the other one", x.set(0, 0, 7), 1);
    check.due("3: LED 0", x.set(1, 0, 0), -1);
    check.due("3: LED 1", x.set(1, 0, 1), 0);
    check.due("3: LED none", x.set(1, 0, -1), 1);
    check.due("3: LED none again", x.set(1, 0, -1), -1);
    int[][] none = {{-1, 0, 0}, {2, 0, 0}, {0, 2, 0}, {0, -1, 0}, {1, 2, 0}, {0, 0, -1}, {0, 0, 100}, {1, 0, 2},
        {1, 0, -2}, {LOW, HIGH, 0}, {0, HIGH, 1}, {0, 0, HIGH}, {1, 1, LOW}};
    for (int[] c : none) {
      check.due("3: set(" + c[0] + ", " + c[1] + ", " + c[2] + ")", x.set(c[0], c[1], c[2]), -5);
    }
    check.due("3: a refusal changes nothing", x.set(0, 0, 7), 7);
    check.due("3: a refusal changes nothing", x.set(1, 0, 0), -1);
  }

  private static void promise4() {
    TwoCamps x = Check.people(4);
    check.due("4: the first", x.feel(2, 0, -1, 99, 3), 0);
    check.due("4: the second", x.feel(0, 1, 1, 1, 0), 1);
    check.due("4: the third", x.feel(3, 2, 1, 50, 1), 2);
    int[][] bad = {{0, 0, 1, 1, 0}, {0, 4, 1, 1, 0}, {-1, 0, 1, 1, 0}, {0, 3, 0, 1, 0}, {0, 3, 2, 1, 0},
        {0, 3, -2, 1, 0}, {0, 3, 1, 0, 0}, {0, 3, 1, 100, 0}, {0, 3, 1, -5, 0}, {0, 3, 1, 1, -1}, {0, 3, 1, 1, 4},
        {HIGH, LOW, 1, 1, 0}, {0, 3, LOW, HIGH, HIGH}};
    for (int[] c : bad) {
      check.due("4: feel(" + java.util.Arrays.toString(c) + ")", x.feel(c[0], c[1], c[2], c[3], c[4]), -2);
    }
    check.due("4: a refusal tells nothing", x.count(1), 3);
    check.due("4: a refusal tells nothing", x.between(0, 3), -1);
    TwoCamps y = Check.people(9);
    int number = 0;
    for (int a = 0; a < 9; a++) {
      for (int b = 0; b < a; b++) {
        check.due("4: one for each two", y.feel(a, b, 1, 1, 0), number);
        number++;
      }
    }
    check.due("4: all 36", y.count(1), 36);
    check.due("4: one of 36 anew", y.feel(7, 8, -1, 2, 0), 35);
    check.due("4: still 36", y.count(1), 36);
  }

  private static void promise4ToldAnew() {
    TwoCamps x = Check.people(3);
    x.feel(0, 1, 1, 5, 3);
    x.feel(1, 2, 1, 6, 0);
    check.due("4: told anew", x.feel(1, 0, -1, 7, 0), 0);
    int[] row = {0, 1, -1, 7, 0, 0, 7, 1, 0};
    for (int what = 0; what < row.length; what++) {
      check.due("4: told anew, " + what, x.felt(0, what), row[what]);
    }
    check.due("4: told anew, as many", x.count(1), 2);
    check.due("4: told anew, wrongly", x.feel(1, 0, -1, 0, 0), -2);
    check.due("4: as it was", x.felt(0, 3), 7);
  }

  private static void promise5() {
    TwoCamps x = Check.told(4, "d-b12k!;a+b7;a+d3k;b+c1!;c+a1;");
    int[][] rows = {{1, 3, -1, 12, 1, 1, 12, 0, 1}, {0, 1, 1, 7, 0, 0, 7, 1, 1}, {0, 3, 1, 3, 1, 0, 3, 1, 1},
        {1, 2, 1, 1, 0, 1, 1, 0, 0}, {0, 2, 1, 1, 0, 0, 1, 1, 0}};
    for (int f = 0; f < rows.length; f++) {
      for (int what = 0; what < 9; what++) {
        check.due("5: felt(" + f + ", " + what + ")", x.felt(f, what), rows[f][what]);
      }
    }
    int[][] none = {{-1, 0}, {5, 0}, {0, -1}, {0, 9}, {HIGH, 0}, {LOW, 8}, {0, LOW}, {4, HIGH}};
    for (int[] c : none) {
      check.due("5: felt(" + c[0] + ", " + c[1] + ")", x.felt(c[0], c[1]), -5);
    }
    x.feel(1, 2, -1, 1, 0);
    int[] threes = {1, 2, 1, 1, 1};
    for (int f = 0; f < threes.length; f++) {
      check.due("5: BAD THREES of " + f, x.felt(f, 8), threes[f]);
    }
  }

  private static void promise5Rule() {
    TwoCamps x = Check.told(3, "a+b99k;b-c1;");
    Check.text(x, "cost strength*200-200;let most-2;");
    x.force(1);
    check.due("5: cost, else the bound above", x.felt(0, 6), 9999);
    check.due("5: cost 0", x.felt(1, 6), 0);
    check.due("5: let below 0 is true", x.felt(0, 7), 1);
    check.due("5: let 0", x.felt(1, 7), 0);
    Check.text(x, "cost hate-1;let 9;");
    x.force(2);
    check.due("5: cost, else the bound below", x.felt(0, 6), 0);
    check.due("5: cost of a hatred", x.felt(1, 6), 0);
    check.due("5: let 9 is 1", x.felt(1, 7), 1);
  }

  private static void promise6() {
    TwoCamps x = Check.told(4, "a+b1;d-b2;");
    check.due("6: between(0, 1)", x.between(0, 1), 0);
    check.due("6: between(1, 0)", x.between(1, 0), 0);
    check.due("6: between(1, 3)", x.between(1, 3), 1);
    check.due("6: between(3, 1)", x.between(3, 1), 1);
    check.due("6: between(0, 3)", x.between(0, 3), -1);
    check.due("6: between(2, 1)", x.between(2, 1), -1);
    int[][] bad = {{0, 0}, {3, 3}, {0, 4}, {4, 0}, {-1, 0}, {0, -1}, {4, 4}, {HIGH, 0}, {0, LOW}};
    for (int[] c : bad) {
      check.due("6: between(" + c[0] + ", " + c[1] + ")", x.between(c[0], c[1]), -2);
    }
  }
}
