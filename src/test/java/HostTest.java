/** Promises 34 to 38: the host. */
public final class HostTest {
  private static final Check check = new Check();
  private static final int LOW = Integer.MIN_VALUE, HIGH = Integer.MAX_VALUE;

  public static void main(String[] args) {
    promise34();
    promise35();
    promise35Sorts();
    promise36();
    promise36AsTheyWere();
    promise37();
    promise37Refused();
    promise38();
    check.end("HostTest");
  }

  private static void promise34() {
    TwoCamps x = Check.people(1);
    int[][] bad = {{-1, 0, 1}, {4, 0, 1}, {0, -2, 1}, {0, 3, 1}, {0, 0, 41}, {0, 2, HIGH}, {HIGH, 0, 0}, {LOW, -1, 0}, {0, LOW, 0},
        {4, 0, -1}, {0, 3, -1}};
    for (int[] c : bad) {
      check.due("34: sheet(" + c[0] + ", " + c[1] + ", " + c[2] + ")", x.sheet(c[0], c[1], c[2]), -2);
    }
    check.due("34: below 0", x.sheet(0, 0, -1), -14);
    check.due("34: below 0", x.sheet(3, 2, LOW), -14);
    check.due("34: a refusal makes none", x.cell(0, 0, 0), -11);
    for (int sort = 0; sort < 3; sort++) {
      check.due("34: of 40", x.sheet(sort, sort, 40), 1);
      check.due("34: it has 40", x.cell(sort, 39, 1), 1);
      check.due("34: and no more", x.cell(sort, 40, 1), -12);
      check.due("34: of 0", x.sheet(sort, sort, 0), 1);
      check.due("34: it has none", x.cell(sort, 0, 1), -12);
    }
    x.sheet(0, 0, 1);
    x.cell(0, 0, 5);
    check.due("34: below 0", x.sheet(0, 0, -1), -14);
    check.due("34: it is as it was", x.camping(0, 0), -2);
    check.due("34: anew", x.sheet(0, 0, 1), 1);
    check.due("34: all 0", x.camping(0, 0), 0);
    check.due("34: missing", x.sheet(0, -1, -5), 1);
    check.due("34: it is missing", x.camping(0, 0), -11);
    check.due("34: missing again", x.sheet(0, -1, HIGH), 1);
    check.due("34: it is missing", x.cell(0, 0, 0), -11);
    check.due("34: others are not", x.cell(1, 0, 0), -12);
  }

  private static void promise35() {
    TwoCamps x = Check.people(3);
    check.due("35: missing", x.cell(0, 0, 1), -11);
    check.due("35: missing ahead of outside", x.cell(0, -1, 1), -11);
    x.sheet(0, 2, 3);
    int[][] rows = {{-1, 0, 0, -2}, {4, 0, 0, -2}, {HIGH, 0, 0, -2}, {LOW, 9, 0, -2}, {0, -1, 0, -12}, {0, 3, 0, -12}, {0, HIGH, 0, -12},
        {0, LOW, 0, -12}, {0, 2, HIGH, 1}, {0, 2, LOW, 1}, {0, 0, 3, 1}};
    for (int[] c : rows) {
      check.due("35: cell(" + c[0] + ", " + c[1] + ", " + c[2] + ")", x.cell(c[0], c[1], c[2]), c[3]);
    }
    check.due("35: an int is not cut", x.camping(0, 0), -2);
    check.due("35: anew", x.cell(0, 2, 1), 1);
    check.due("35: 3 0 1", x.camping(0, 0), 0);
    check.due("35: two camps beside 0", x.camped(0, 2), 3);
  }

  private static void promise35Sorts() {
    // what a SHEET of a sort has behind cell(.., v), by whether a CAMPING takes it as camp 2
    int[] values = {2, 256 + 2, 65536 + 2, -254, -65534, 2 - 512, LOW + 2, 128 + 2, 32768 + 2};
    int[][] takes = {{1, 1, 1}, {1, 0, 0}, {1, 1, 0}, {1, 0, 0}, {1, 1, 0}, {1, 0, 0}, {1, 1, 0}, {0, 0, 0}, {1, 0, 0}};
    for (int v = 0; v < values.length; v++) {
      for (int sort = 0; sort < 3; sort++) {
        TwoCamps x = Check.people(1);
        x.sheet(0, sort, 1);
        check.due("35: cell(0, 0, " + values[v] + ")", x.cell(0, 0, values[v]), 1);
        check.due("35: taken of sort " + sort + ": " + values[v], x.camping(0, 0), takes[v][sort] == 1 ? 0 : -2);
      }
    }
    // -1 as a SIGN: bytes and shorts can be below 0
    for (int sort = 0; sort < 3; sort++) {
      TwoCamps x = Check.people(2);
      int[] feeling = {0, 1, -1, 5, 0};
      x.sheet(0, sort, 5);
      for (int i = 0; i < 5; i++) {
        x.cell(0, i, feeling[i]);
      }
      check.due("35: below 0, sort " + sort, x.feels(0, sort, 0, 1), 1);
      check.due("35: below 0, sort " + sort, x.felt(0, 2), -1);
      x.cell(0, 2, sort == 0 ? 255 : 65535);
      check.due("35: the lowest bits, sort " + sort, x.feels(0, sort, 0, 1), sort == 2 ? 0 : 1);
    }
  }

  private static void promise36() {
    TwoCamps x = Check.people(3);
    x.sheet(0, 2, 4);
    x.sheet(1, 2, 3);
    x.sheet(2, 1, 3);
    int[] values = {1, 2, 3, 9};
    for (int i = 0; i < 4; i++) {
      x.cell(0, i, values[i]);
    }
    int[][] rows = {{-1, 0, 1, 0, 1, -2}, {0, 0, 4, 0, 1, -2}, {4, 0, 0, 0, 1, -2}, {3, 0, 0, 0, 1, -11}, {0, 0, 3, 0, 1, -11}, {3, 0, 3, 0, 0, -11},
        {3, 9, 9, 9, 9, -2}, {0, 0, 2, 0, 1, -13}, {2, 0, 1, 0, 0, -13}, {2, -1, 0, 9, -9, -13}, {0, -1, 1, 0, 1, -12}, {0, 0, 1, -1, 1, -12},
        {0, 0, 1, 0, -1, -12}, {0, 0, 1, 0, 4, -12}, {1, 0, 0, 0, 4, -12}, {0, 2, 1, 0, 3, -12}, {0, 0, 1, 2, 2, -12}, {0, 4, 1, 0, 1, -12},
        {0, 5, 1, 0, 0, -12}, {0, 0, 1, 4, 0, -12}, {0, HIGH, 1, 0, 1, -12}, {0, 1, 1, 0, HIGH, -12}, {0, 0, 1, HIGH, HIGH, -12}, {0, LOW, 1, LOW, LOW, -12},
        {0, 4, 1, 3, 0, 0}, {0, 0, 1, 0, 0, 0}};
    for (int[] c : rows) {
      check.due("36: copy(" + java.util.Arrays.toString(c) + ")", x.copy(c[0], c[1], c[2], c[3], c[4]), c[5]);
    }
    x.camping(0, 1);
    check.due("36: nothing came yet", x.camped(0, 2), 1);
    check.due("36: two", x.copy(0, 2, 1, 1, 2), 2);
    x.camping(0, 1);
    check.due("36: 0 3 9", x.camped(1, 2), 2);
    check.due("36: 0 3 9", x.camped(1, 4), 1);
    check.due("36: all", x.copy(1, 0, 0, 0, 3), 3);
    check.due("36: they are told apart", x.cell(1, 0, 2), 1);
    x.sheet(3, 2, 3);
    x.copy(0, 0, 3, 0, 3);
    x.camping(0, 3);
    check.due("36: the other way", x.same(1, 2), 1);
  }

  private static void promise36AsTheyWere() {
    TwoCamps x = Check.people(4);
    x.sheet(0, 0, 4);
    for (int i = 0; i < 4; i++) {
      x.cell(0, i, i);
    }
    check.due("36: within one, upward", x.copy(0, 0, 0, 1, 3), 3);
    x.camping(0, 0);
    Check.sheet(x, 1, 0, 0, 1, 2);
    x.camping(0, 1);
    check.due("36: 0 0 1 2", x.same(0, 1), 1);
    for (int i = 0; i < 4; i++) {
      x.cell(0, i, i);
    }
    check.due("36: within one, downward", x.copy(0, 1, 0, 0, 3), 3);
    x.camping(0, 0);
    Check.sheet(x, 1, 1, 2, 3, 3);
    x.camping(0, 1);
    check.due("36: 1 2 3 3", x.same(2, 3), 1);
    check.due("36: not 0 0 1 2", x.same(0, 2), 0);
  }

  private static void promise37() {
    TwoCamps x = Check.people(3);
    Check.sheet(x, 0, 7, 0, 1, 1, 50, 2, 2, 1, -1, 60, 1, 0, 0, 1, 1, 0, 0, 2, 1, 9, 3);
    check.due("37: two from 1 on", x.feels(0, 2, 1, 2), 2);
    int[][] rows = {{0, 1, 1, 50, 1, 0}, {1, 2, -1, 60, 0, 1}, {0, 2, 1, 9, 1, 1}};
    for (int f = 0; f < 2; f++) {
      for (int what = 0; what < 6; what++) {
        check.due("37: felt(" + f + ", " + what + ")", x.felt(f, what), rows[f][what]);
      }
    }
    check.due("37: one is left out, what is behind it comes", x.feels(0, 2, 1, 4), 3);
    check.due("37: how many FEELINGS", x.count(1), 3);
    for (int what = 0; what < 6; what++) {
      check.due("37: felt(2, " + what + ")", x.felt(2, what), rows[2][what]);
    }
    check.due("37: one that is left out alone", x.feels(0, 2, 11, 1), 0);
    check.due("37: none", x.feels(0, 2, 0, 0), 0);
    check.due("37: none, of any place", x.feels(0, 2, 50, 0), 0);
    check.due("37: none, of any place", x.feels(0, 2, -50, 0), 0);
    TwoCamps y = Check.people(9);
    int[] eight = new int[40];
    for (int f = 0; f < 8; f++) {
      int[] told = {0, f + 1, 1, f + 1, 0};
      System.arraycopy(told, 0, eight, 5 * f, 5);
    }
    Check.sheet(y, 2, eight);
    check.due("37: eight", y.feels(2, 2, 0, 8), 8);
    check.due("37: eight", y.felt(7, 3), 8);
    check.due("37: anew", y.feels(2, 2, 0, 8), 8);
    check.due("37: as many FEELINGS", y.count(1), 8);
  }

  private static void promise37Refused() {
    TwoCamps x = Check.people(3);
    x.sheet(0, 1, 12);
    int[] row = {0, 0, 1, 1, 5, 0, 1, 2, -1, 6, 0, 0};
    for (int i = 0; i < row.length; i++) {
      x.cell(0, i, row[i]);
    }
    int[][] rows = {{-1, 1, 0, 1, -2}, {4, 1, 0, 1, -2}, {0, -1, 0, 1, -2}, {0, 3, 0, 1, -2}, {0, 1, 0, -1, -2}, {0, 1, 0, 9, -2}, {HIGH, LOW, 0, HIGH, -2},
        {0, 0, 0, 1, -13}, {0, 2, 0, 0, -13}, {0, 2, -9, 8, -13}, {1, 1, 0, 1, -11}, {1, 0, -1, 0, -11}, {1, 3, 0, 0, -2}, {1, -1, 0, 0, -2},
        {0, 1, -1, 1, -12}, {0, 1, 8, 1, -12}, {0, 1, 12, 1, -12}, {0, 1, HIGH, 1, -12}, {0, 1, HIGH - 4, 8, -12}, {0, 1, LOW, 1, -12}};
    for (int[] c : rows) {
      check.due("37: feels(" + java.util.Arrays.toString(c) + ")", x.feels(c[0], c[1], c[2], c[3]), c[4]);
    }
    check.due("37: none came", x.count(1), 0);
    check.due("37: the third is outside", x.feels(0, 1, 1, 3), -12);
    check.due("37: what stood ahead came", x.count(1), 2);
    check.due("37: what stood ahead came", x.felt(1, 3), 6);
  }

  private static void promise38() {
    TwoCamps x = Check.people(4);
    check.due("38: no such CAMPING", x.taken(0, 0), -11);
    for (int kind = 0; kind < 6; kind++) {
      Check.camping(x, kind, 9, 1, 2, 0);
    }
    String[] under = {"0", "01", "02", "023", "014", "015"};
    for (int c = 0; c < 6; c++) {
      for (int k = 0; k < 6; k++) {
        check.due("38: taken(" + c + ", " + k + ")", x.taken(c, k), under[c].indexOf('0' + k) >= 0 ? 4 : -13);
      }
    }
    int[][] rows = {{0, -1, -2}, {0, 6, -2}, {9, 6, -2}, {6, 0, -11}, {-1, 0, -11}, {HIGH, 5, -11}, {LOW, 1, -11}, {0, HIGH, -2}, {0, LOW, -2}};
    for (int[] c : rows) {
      check.due("38: taken(" + c[0] + ", " + c[1] + ")", x.taken(c[0], c[1]), c[2]);
    }
  }
}
