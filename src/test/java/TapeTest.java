/** Promises 7 to 10: texts, streets. */
public final class TapeTest {
  private static final Check check = new Check();

  public static void main(String[] args) {
    promise7();
    promise8();
    promise8Faults();
    promise8ToldOneBehindTheOther();
    promise9Faults();
    promise9Open();
    promise9Values();
    promise9Long();
    promise9Full();
    promise10();
    check.end("TapeTest");
  }

  private static void promise7() {
    TwoCamps x = Check.people(2);
    check.due("7: feed(0, 0)", x.feed(0, 0), -2);
    check.due("7: feed(9, 0)", x.feed(9, 0), -2);
    check.due("7: feed(-1, 0)", x.feed(-1, 0), -2);
    check.due("7: feed(MIN, 0)", x.feed(Integer.MIN_VALUE, 0), -2);
    check.due("7: feed(MAX, 0)", x.feed(Integer.MAX_VALUE, 0), -2);
    check.due("7: the lowest ones alone", x.feed(2, Check.packed("a-xxxxxx")), 2);
    check.due("7: behind the others", x.feed(3, Check.packed("b7;!!!!!")), 5);
    check.due("7: count(3)", x.count(3), 5);
    check.due("7: the lowest first", x.street(), 1);
    check.due("7: hate", x.felt(0, 2), -1);
    check.due("7: strength", x.felt(0, 3), 7);
    check.due("7: empty again", x.count(3), 0);
    for (int i = 1; i <= 19; i++) {
      check.due("7: eight more", x.feed(8, Check.packed("        ")), 8 * i);
    }
    check.due("7: one more", x.feed(1, 32), 153);
    check.due("7: no room for 8", x.feed(8, 0), -4);
    check.due("7: nothing changes", x.count(3), 153);
    check.due("7: BAD ahead of FULL", x.feed(9, 0), -2);
    check.due("7: room for 7", x.feed(7, Check.packed("     cos")), 160);
    check.due("7: no room for 1", x.feed(1, 0), -4);
    check.due("7: a text of 160", x.text(), -100 - 158);
    check.due("7: empty again", x.count(3), 0);
    TwoCamps y = Check.people(2);
    y.feed(8, -1L);
    check.due("7: bytes of 255", y.street(), -100);
    y.feed(8, Long.MIN_VALUE | Check.packed("a+b12k;"));
    check.due("7: the eighth byte of a number below 0", y.street(), -107);
  }

  private static void promise8() {
    TwoCamps x = Check.people(9);
    check.due("8: LINES", Check.street(x, "i-a99k!;b+c1;c+b09!;d-e10k;"), 4);
    int[][] rows = {{0, 8, -1, 99, 1, 1}, {1, 2, 1, 9, 0, 1}, {3, 4, -1, 10, 1, 0}};
    check.due("8: FEELINGS", x.count(1), 3);
    for (int f = 0; f < 3; f++) {
      for (int what = 0; what < 6; what++) {
        check.due("8: felt(" + f + ", " + what + ")", x.felt(f, what), rows[f][what]);
      }
    }
    check.due("8: THE TAPE is empty", x.count(3), 0);
    StringBuilder lines = new StringBuilder();
    for (int i = 0; i < 32; i++) {
      lines.append("a+b").append(1 + i % 9).append(';');
    }
    check.due("8: 160 bytes", Check.street(x, lines.toString()), 32);
    check.due("8: the last one holds", x.felt(3, 3), 5);
  }

  private static void promise8Faults() {
    Object[][] rows = {{"", 0}, {"a", 1}, {"a+", 2}, {"a+b", 3}, {"a+b5", 4}, {"a+b55", 5}, {"a+b5k", 5}, {"a+b5k!", 6},
        {"a+b5;a", 6}, {";", 0}, {"d+a5;", 0}, {"A+b5;", 0}, {"5+b5;", 0}, {"+b5;", 0}, {"a+5;", 2}, {"a-", 2}, {"`+b5;", 0}, {"a=b5;", 1}, {"ab5;", 1},
        {"a+a5;", 2}, {"a+d5;", 2}, {"a+;", 2}, {"a++b5;", 2}, {"a+b;", 3}, {"a+bk;", 3}, {"a+b-5;", 3}, {"a+b0;", 4},
        {"a+b00;", 4}, {"a+b0k;", 4}, {"a+b0", 4}, {"a+b015;", 5}, {"a+b123;", 5}, {"a+b100;", 5}, {"a+b5!k;", 5},
        {"a+b5kk;", 5}, {"a+b5!!;", 5}, {"a+b5K;", 4}, {"a+b5k! ;", 6}, {" a+b5;", 0}, {"a +b5;", 1}, {"a+b5; ", 5},
        {"a+b5;\n", 5}, {"a+b5;;", 5}, {"a+b5;b-c1;c", 11}, {"a+b5;b-c1;c-d1;", 12}, {"a+b5:", 4}, {"a+b5/;", 4}};
    for (Object[] row : rows) {
      TwoCamps x = Check.people(3);
      check.due("8: \"" + row[0] + "\"", Check.street(x, (String) row[0]), -100 - (Integer) row[1]);
      check.due("8: nothing is told by \"" + row[0] + "\"", x.count(1), 0);
      check.due("8: THE TAPE is empty behind \"" + row[0] + "\"", x.count(3), 0);
    }
    TwoCamps nobody = new TwoCamps();
    check.due("8: nobody", Check.street(nobody, "a+b5;"), -100);
    check.due("8: 0 ahead of a digit", Check.street(Check.people(2), "a-b07;"), 1);
  }

  private static void promise8ToldOneBehindTheOther() {
    TwoCamps x = Check.told(3, "a+b5k;");
    check.due("8: anew, twice", Check.street(x, "b+c1;b-a6!;c-b2k;a+c3;"), 4);
    check.due("8: as many FEELINGS", x.count(1), 3);
    int[][] rows = {{0, 1, -1, 6, 0, 1}, {1, 2, -1, 2, 1, 0}, {0, 2, 1, 3, 0, 0}};
    for (int f = 0; f < 3; f++) {
      for (int what = 0; what < 6; what++) {
        check.due("8: anew, felt(" + f + ", " + what + ")", x.felt(f, what), rows[f][what]);
      }
    }
    check.due("8: a FAULT behind good LINES", Check.street(x, "a+b9;b+c9;x"), -110);
    check.due("8: tells none of them", x.felt(0, 3), 6);
  }

  private static void fault(String text, int place) {
    TwoCamps x = new TwoCamps();
    check.due("9: \"" + text + "\"", Check.text(x, text), -100 - place);
    check.due("9: no TEXT by \"" + text + "\"", x.count(2), 1);
    check.due("9: THE TAPE is empty behind \"" + text + "\"", x.count(3), 0);
  }

  private static void good(String text) {
    check.due("9: \"" + text + "\"", Check.text(new TwoCamps(), text), 1);
  }

  private static void promise9Faults() {
    String[] ends = {"", "   ", "cost", "cost ", "cost 1", "cost 1+", "cost (", "cost (1", "cost 1;", "cost 1; \n", "cost 1;let",
        "cost 1;let not", "cost 1;let 1", "cost 1;let 1 ", "cost 1 <", "cost 1 or", "cost 1 and", "cost -", "cost 1*"};
    for (String text : ends) {
      fault(text, text.length());
    }
    // the FAULT stands behind the ^, which is taken out
    String[] texts = {"^let 1;", "^costs 1;", "^COST 1;", "^;", "^1", "cost ^;", "cost ^let", "cost ^cost 1;let 1;",
        "cost 1 ^1;let 1;", "cost 1 ^kin;let 1;", "cost 1;^cost 1;", "cost 1;^;let 1;", "cost 1;let ^;", "cost 1;let 1;^;",
        "cost 1;let 1;  ^1", "cost 1;let 1;^let", "cost ^price;let 1;", "cost ^kinn;let 1;", "cost ^Kin;let 1;",
        "cost ^ki", "cost 1^)", "cost ^)", "cost (1^;", "cost (^)", "cost (1+^);", "cost 1+^not 1;",
        "cost -^not 1;", "cost 1*^not 1;", "cost 1<^not 1;", "cost 1<2^<3;", "cost 1=2^=3;", "cost 1<2^=3;", "cost not 1<2^=3;",
        "cost 1^not 2;", "cost 1 or ^or 2;", "cost 1 or ^and 2;", "cost ^or 2;", "cost 1 <^= 2;", "cost 1^?2;", "cost ^+1;",
        "cost 1*^*2;", "cost ^12345;let 1;", "cost 1+^00001;let 1;", "cost 1 ^12345;let 1;",
        "cost 1;let^_1;", "cost 1^\t;", "cost 1^\r;", "cost 1^\u00e9;", "cost ^\u0000;",
        "cost ^!", "cost ^kinz;", "cost ^zkin;", "cost 1;let 1;^?", "cost 1;let 1; ^12345", "cost 1;let 1;^kinn", "cost 1 ^let 1;let 1;",
        "cost 1;^or 1;", "cost 1;^and 1;", "cost 1;^not 1;", "cost 1 ^cost 1;let 1;", "^not 1;", "^or", "cost 1^,", "cost ^strengt h;", "cost 1^:", "cost 1^>2;", "cost 1^/2;", "cost ^notkin;"};
    for (String text : texts) {
      int place = text.indexOf('^');
      fault(text.substring(0, place) + text.substring(place + 1), place);
    }
    good("cost1;let1;");
    good("\n cost(1)and not 2 or-3;let not not kin; \n");
    good("cost 9999;let 0000;");
    good("cost 1-1--1;let 1<2 and 2=2;");
  }

  private static void promise9Open() {
    good("cost (((((1)))));let -----1;");
    fault("cost ((((((1))))));let 1;", 10);
    fault("cost ------1;let 1;", 10);
    good("cost not not not not not 1;let 1;");
    fault("cost not not not not not not 1;let 1;", 25);
    fault("cost 1;let not(-(-(1)));", 18);
    good("cost 1;let not(-(-1));");
    good("cost (not -(-1+-1*-1)) ;let 1;");
    fault("cost (not -(-1+-1*-(1))) ;let 1;", 19);
    fault("cost (not (not (not 1)));let 1;", 16);
    good("cost (not (not (1))) and (not (not (1)));let 1;");
    good("cost -----1------2;let 1;");
    fault("cost -----1------(2);let 1;", 17);
    good("cost (((((1)))))+(((((1)))))*(((((1)))));let 1;");
    good("cost not not not not -1 < -1 and not not not not -1;let 1;");
    fault("cost not not not not -1 < --1;let 1;", 27);
    good("cost not not not not 1 < (1) or (1) = -1;let 1;");
    fault("cost ((((-(1)))));let 1;", 10);
    fault("cost (((((not 1)))));let 1;", 10);
  }

  private static void value(String e, int cost) {
    TwoCamps x = Check.told(6, "b-f17k;c+d5!;");
    check.due("9: \"" + e + "\"", Check.text(x, "cost " + e + ";let " + e + ";"), 1);
    x.force(1);
    check.due("9: cost " + e, x.felt(0, 6), cost);
    check.due("9: let " + e, x.felt(0, 7), cost == 0 ? 0 : 1);
  }

  private static void promise9Values() {
    Object[][] rows = {{"strength", 17}, {"hate", 1}, {"kin", 1}, {"fixed", 0}, {"least", 1}, {"most", 5}, {"7", 7}, {"0012", 12},
        {"2+3*4", 14}, {"(2+3)*4", 20}, {"10-2-3", 5}, {"10-(2-3)", 11}, {"10--2", 12}, {"--5", 5}, {"2*-3+10", 4}, {"-2*-3", 6},
        {"5 or 0", 1}, {"0 or 0", 0}, {"2 and 3", 1}, {"2 and 0", 0}, {"not 0", 1}, {"not 7", 0}, {"not not 7", 1}, {"1 or 0 and 0", 1},
        {"(1 or 0) and 0", 0}, {"0 and 0 or 1", 1}, {"not 1 or 1", 1}, {"not (1 or 1)", 0}, {"not 1 and 0", 0}, {"not (1 and 0)", 1},
        {"1<2", 1}, {"2<2", 0}, {"3<2", 0}, {"2=2", 1}, {"2=3", 0}, {"not 1<2", 0}, {"not 2<1", 1}, {"1+1<3", 1}, {"1<1+1", 1}, {"(1<2)+(1<2)", 2},
        {"0-1<0", 1}, {"1<2 and 3<2 or 1=1", 1}, {"strength*hate+kin", 18}, {"most-least", 4}, {"(most-least)*100+strength", 417},
        {"9999*9999*43<9999*9999", 1}, {"9999", 9999}, {"1=1", 1}, {"(0-1) and 1", 1},
        {"5*(2<3)", 5}, {"1 or 1 or 0", 1}, {"1 and 1 and 0", 0}, {"2-1<2*1", 1}, {"least<most", 1}, {"3*2*2", 12}};
    for (Object[] row : rows) {
      value((String) row[0], (Integer) row[1]);
    }
    // 32 bits, wrapping: 9999 * 9999 * 43 is 4299140043, 4172747 above 2 to the 32nd
    value("9999*9999*43-4165*1001", 4172747 - 4169165);
    TwoCamps x = Check.told(6, "b-f17k;c+d5!;");
    Check.text(x, "cost strength*10+most+fixed;let fixed=least-1;");
    x.force(1);
    check.due("9: each of its own, cost", x.felt(1, 6), 54);
    check.due("9: each of its own, let", x.felt(1, 7), 1);
    check.due("9: each of its own, cost", x.felt(0, 6), 175);
    check.due("9: each of its own, let", x.felt(0, 7), 1);
    Check.text(x, "cost hate*10+kin*100;let 1;");
    x.force(2);
    check.due("9: a hatred among KIN", x.felt(0, 6), 110);
    check.due("9: neither", x.felt(1, 6), 0);
  }

  private static void promise9Long() {
    TwoCamps x = Check.told(2, "a+b50;");
    StringBuilder long160 = new StringBuilder("cost 1");
    while (long160.length() < 151) {
      long160.append("+1");
    }
    long160.append(";let 1;");
    while (long160.length() < 160) {
      long160.insert(5, " ");
    }
    for (int i = 0; i < 4; i++) {
      check.due("9: a FAULT at the end of a long one", Check.text(x, long160.substring(0, 159) + "+"), -260);
    }
    check.due("9: a long one", Check.text(x, long160.toString()), 1);
    x.force(1);
    check.due("9: a long one's cost", x.felt(0, 6), 74);
    check.due("9: blanks alone", Check.text(x, " \n".repeat(80)), -260);
    check.due("9: a TEXT behind many blanks", Check.text(x, " ".repeat(144) + "cost 5;let 0;  \n"), 2);
    x.force(2);
    check.due("9: its cost", x.felt(0, 6), 5);
    check.due("9: its let", x.felt(0, 7), 0);
  }

  private static void promise9Full() {
    TwoCamps x = Check.people(2);
    for (int text = 1; text <= 5; text++) {
      check.due("9: TEXT", Check.text(x, "cost " + text + ";let 1;"), text);
      check.due("9: a FAULT takes no room", Check.text(x, "cost 7"), text < 5 ? -106 : -4);
      if (text == 5) {
        check.due("9: THE TAPE stays", x.count(3), 6);
      }
    }
    check.due("9: FULL", x.text(), -4);
    check.due("9: count(2)", x.count(2), 6);
    check.due("9: THE TAPE can still be a STREET", x.street(), -100);
    check.due("9: FULL ahead of all, of an empty TAPE too", x.text(), -4);
    x.feel(0, 1, 1, 50, 0);
    for (int text = 5; text >= 1; text--) {
      x.force(text);
      check.due("9: each TEXT is kept", x.felt(0, 6), text);
    }
    x.force(0);
    check.due("9: TEXT 0 too", x.felt(0, 6), 50);
  }

  private static void promise10() {
    TwoCamps x = Check.told(2, "a+b50!;");
    check.due("10: force(1), which is none", x.force(1), -2);
    check.due("10: force(-1)", x.force(-1), -2);
    check.due("10: force(MAX)", x.force(Integer.MAX_VALUE), -2);
    check.due("10: force(MIN)", x.force(Integer.MIN_VALUE), -2);
    check.due("10: force(0)", x.force(0), 0);
    Check.text(x, "cost 3;let 1;");
    check.due("10: a TEXT is not THE RULE yet", x.felt(0, 6), 50);
    check.due("10: force(1)", x.force(1), 0);
    check.due("10: THE RULE", x.count(4), 1);
    check.due("10: its cost", x.felt(0, 6), 3);
    check.due("10: its let", x.felt(0, 7), 1);
    check.due("10: force(2), which is none", x.force(2), -2);
    check.due("10: nothing changes", x.count(4), 1);
    check.due("10: force(0)", x.force(0), 1);
    check.due("10: TEXT 0, cost", x.felt(0, 6), 50);
    check.due("10: TEXT 0, let", x.felt(0, 7), 0);
  }
}
