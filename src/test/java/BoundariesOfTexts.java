import java.util.ArrayList;
import java.util.List;

/** Terms 2 (a TEXT) and promises 9 and 10. */
final class BoundariesOfTexts {
  private static final int BAD = Boundary.BAD, FULL = Boundary.FULL, LOW = Boundary.LOW, HIGH = Boundary.HIGH;
  /** The greatest int as an E. */
  private static final String GREATEST = "(9999*9999*21+9999*4790+8416)";
  private static final String[] OPENERS = {"(", "not ", "-"};

  private BoundariesOfTexts() {
  }

  static void ask(Boundary b) {
    tape(b);
    tokens(b);
    everyByte(b);
    parts(b);
    sums(b);
    names(b);
    ints(b);
    truths(b);
    faults(b);
    endsTooEarly(b);
    openFive(b);
    open(b);
    openTill(b);
    texts(b);
    ofFeelings(b);
    promise9(b);
    promise9Full(b);
    promise10(b);
  }

  private static void good(Boundary b, String text) {
    b.due("text() of \"" + text + "\"", Check.text(new TwoCamps(), text), 1);
  }

  private static void fault(Boundary b, String text, int place) {
    TwoCamps x = new TwoCamps();
    b.due("text() of \"" + text + "\"", Check.text(x, text), -100 - place);
    b.due("count(2) behind \"" + text + "\"", x.count(2), 1);
  }

  /** The FAULT stands behind the ^, which is taken out. */
  private static void faultAt(Boundary b, String... texts) {
    for (String text : texts) {
      int place = text.indexOf('^');
      fault(b, text.substring(0, place) + text.substring(place + 1), place);
    }
  }

  /** An E's worth as cost and as let, of a hatred among KIN: of 17, of b and f. */
  private static void value(Boundary b, String e, int cost, int let) {
    TwoCamps x = Check.told(6, "b-f17k;c+d5!;");
    b.due("text() of " + e, Check.text(x, "cost " + e + ";let 1;"), 1);
    b.due("text() of " + e, Check.text(x, "cost 1;let " + e + ";"), 2);
    x.force(1);
    b.due("cost of " + e, x.felt(0, 6), cost);
    x.force(2);
    b.due("let of " + e, x.felt(0, 7), let);
  }

  private static void value(Boundary b, String e, int cost) {
    value(b, e, cost, cost == 0 ? 0 : 1);
  }

  private static void tape(Boundary b) {
    b.says("Terms 2", "A TEXT is read from THE TAPE (160 bytes at most).");
    TwoCamps x = Check.told(2, "a+b50;");
    String text = "cost 1" + "+1".repeat(73) + ";let 1 ;";
    b.due("bytes of the longest TEXT", text.length(), 160);
    b.due("text() of 160 bytes", Check.text(x, text), 1);
    x.force(1);
    b.due("felt(0, 6)", x.felt(0, 6), 74);
    b.due("text() of 160 bytes, the last one no TOKEN", Check.text(x, text.substring(0, 159) + "?"), -259);
    b.due("text() of 160 bytes that ends too early", Check.text(x, text.substring(0, 158) + "+1"), -260);
    Check.feed(x, text);
    b.due("feed(1, 32) with 160 bytes", x.feed(1, 32), FULL);
    b.due("text() of 160 bytes", x.text(), 2);
  }

  private static void tokens(Boundary b) {
    b.says("Terms 2", "TOKENS, each as long as can be:");
    good(b, "cost1or not1;let kin and0;");
    value(b, "12", 12);
    faultAt(b, "^costkin;let 1;", "cost ^notkin;let 1;", "cost ^kinkin;let 1;", "cost 1;^letkin;", "cost 1 ^orkin;let 1;", "cost ^12345;let 1;",
        "cost kin^1;let 1;", "cost 1^kin;let 1;", "cost 1;let^_;");
    b.says("Terms 2", "WORDS (a .. z),");
    faultAt(b, "^COST 1;let 1;", "cost ^Kin;let 1;", "cost kin^A;let 1;", "cost kin^_;let 1;", "cost kin^{;let 1;", "cost kin^`;let 1;",
        "cost kin^1;let 1;", "cost ^`;let 1;", "cost ^{;let 1;", "cost ^a;let 1;", "cost ^z;let 1;", "cost ^@;let 1;", "cost ^[;let 1;");
    for (char letter = 'a'; letter <= 'z'; letter++) {
      fault(b, "cost kin" + letter + ";let 1;", 5);
      fault(b, "cost " + letter + "kin;let 1;", 5);
    }
    b.says("Terms 2", "NUMBERS (as many digits as stand there, 4 at most),");
    String[] numbers = {"0", "9", "10", "99", "100", "999", "1000", "9999", "0000", "0001", "00"};
    for (String number : numbers) {
      value(b, number, Integer.parseInt(number));
    }
    faultAt(b, "cost ^10000;let 1;", "cost ^00000;let 1;", "cost ^00001;let 1;", "cost 1+^99999;let 1;", "cost 1^:;let 1;", "cost 1^/;let 1;",
        "cost 1;let ^123456789;", "cost (^12345", "cost 1 ^1;let 1;", "cost 1^.1");
    b.says("Terms 2", "blanks (32, 10) may stand between.");
    good(b, "cost\n1\n;\nlet\nnot\nfixed\n;");
    good(b, "  \n cost ( 1 + 2 ) * - 3 < 4 ;  \n let  not  not 1 ; \n ");
    good(b, "cost(1+2)*-3<4;let not not 1;");
    for (char byHand : new char[] {9, 11, 12, 13, 0, 31, 33, 160}) {
      fault(b, "cost " + byHand + "1;let 1;", 5);
      fault(b, byHand + "cost 1;let 1;", 0);
    }
    faultAt(b, "^co st 1;let 1;", "cost 1 ^2;let 1;", "cost ^stren gth;let 1;", "cost 1;^l\net 1;", "cost 1\n^2;let 1;");
  }

  /** Each byte behind a NUMBER: what can join it with another one is good. */
  private static void everyByte(Boundary b) {
    b.says("Terms 2", "SIGNS ( ) ; + - * < = ;");
    for (int value = 0; value < 256; value++) {
      String text = "cost 1" + (char) value + "2;let 1;";
      boolean joins = "+-*<=".indexOf(value) >= 0 || value >= '0' && value <= '9';
      if (joins) {
        good(b, text);
      } else {
        fault(b, text, value == ' ' || value == '\n' || value == ';' ? 7 : 6);
      }
    }
    good(b, "cost (1);let (1);");
  }

  private static void parts(Boundary b) {
    b.says("Terms 2", "TEXT: cost E ; let E ;");
    good(b, "cost 1;let 1;");
    faultAt(b, "^let 1;cost 1;", "^1;let 1;", "^;", "cost ^;let 1;", "cost 1 ^let 1;", "cost 1;^1;", "cost 1;^cost 1;", "cost 1;^;let 1;",
        "cost 1;let ^;", "cost 1;let 1;^;", "cost 1;let 1;^1", "cost 1;let 1;^let 1;", "cost 1;let 1;^cost 1;let 1;", "cost ^cost 1;let 1;", "cost 1;let ^let 1;",
        "cost 1;let 1^let");
    b.says("Terms 2", "E: AND { or AND }.");
    value(b, "0", 0);
    value(b, "0 or 0", 0);
    value(b, "0 or 0 or 0 or 5", 1);
    value(b, "1 or 0 and 0", 1);
    value(b, "0 and 0 or 1", 1);
    faultAt(b, "cost ^or 1;let 1;", "cost 1 or ^;let 1;", "cost 1 or ^or 1;let 1;", "cost 1 or ^and 1;let 1;");
    b.says("Terms 2", "AND: NOT { and NOT }.");
    value(b, "3 and 2", 1);
    value(b, "3 and 2 and 1 and 0", 0);
    value(b, "not 0 and not 0", 1);
    faultAt(b, "cost ^and 1;let 1;", "cost 1 and ^;let 1;", "cost 1 and ^and 1;let 1;", "cost 1 and ^or 1;let 1;");
    b.says("Terms 2", "NOT: not NOT, or SUM, perhaps < or = and a SUM.");
    value(b, "not 5", 0);
    value(b, "not not 5", 1);
    value(b, "not 2<1", 1);
    value(b, "not 1=1", 0);
    value(b, "1<2", 1);
    value(b, "2<2", 0);
    value(b, "2=2", 1);
    value(b, "2=3", 0);
    value(b, "1+1=2*1", 1);
    faultAt(b, "cost 1<2^<3;let 1;", "cost 1=2^=3;let 1;", "cost 1<2^=1;let 1;", "cost 1=2^<1;let 1;", "cost 1<^not 1;let 1;", "cost 1=^not 1;let 1;",
        "cost 1 ^not 1;let 1;", "cost ^<1;let 1;", "cost ^=1;let 1;", "cost 1<^;let 1;", "cost 1<^=1;let 1;", "cost not ^;let 1;", "cost not ^or 1;let 1;");
  }

  private static void sums(Boundary b) {
    b.says("Terms 2", "SUM: TERM { + or - TERM }.");
    value(b, "7-2-3", 2);
    value(b, "7-2+3", 8);
    value(b, "2+3*4", 14);
    value(b, "2*3+4", 10);
    value(b, "1+1+1+1+1-1-1-1", 2);
    faultAt(b, "cost ^+1;let 1;", "cost 1+^;let 1;", "cost 1+^+1;let 1;", "cost 1+^not 1;let 1;", "cost 1-^not 1;let 1;", "cost 1-^);let 1;");
    b.says("Terms 2", "TERM: ONE { * ONE }.");
    value(b, "2*3*4", 24);
    value(b, "2*-3*-4", 24);
    faultAt(b, "cost ^*1;let 1;", "cost 1*^;let 1;", "cost 1*^*1;let 1;", "cost 1*^not 1;let 1;", "cost 1*^+1;let 1;");
    b.says("Terms 2", "ONE: a NUMBER, a NAME, - ONE, ( E ).");
    value(b, "17", 17);
    value(b, "strength", 17);
    value(b, "--17", 17);
    value(b, "10--7", 17);
    value(b, "(2+3)*4", 20);
    value(b, "(1<2)+(2=2)+(not 0)+(0 or 1)+(1 and 1)", 5);
    value(b, "-(-17)", 17);
    value(b, "-2*-3", 6);
    faultAt(b, "cost ^);let 1;", "cost (^);let 1;", "cost (1^;let 1;", "cost 1^);let 1;", "cost (1)^);let 1;", "cost -^not 1;let 1;", "cost -^;let 1;",
        "cost (1^(1));let 1;", "cost 1^(1);let 1;", "cost kin ^kin;let 1;");
  }

  private static void names(Boundary b) {
    String[] names = {"strength", "hate", "kin", "fixed", "least", "most"};
    int[] values = {17, 1, 1, 0, 1, 5};
    b.says("Terms 2", "NAMES are strength hate kin fixed least most;");
    for (int i = 0; i < names.length; i++) {
      value(b, names[i], values[i]);
      fault(b, "cost " + names[i] + "s;let 1;", 5);
      fault(b, "cost " + names[i].substring(1) + ";let 1;", 5);
      fault(b, "cost " + names[i].substring(0, names[i].length() - 1) + ";let 1;", 5);
      fault(b, names[i] + " 1;let 1;", 0);
      fault(b, "cost 1 " + names[i] + ";let 1;", 7);
    }
    b.says("Terms 2", "cost, let, or, and, not are KEYS.");
    for (String key : new String[] {"cost", "let", "or", "and", "not"}) {
      fault(b, "cost 1*" + key + ";let 1;", 7);
      fault(b, "cost -" + key + " 1;let 1;", 6);
      fault(b, "cost " + key + ";let 1;", key.equals("not") ? 8 : 5);
    }
  }

  private static void ints(Boundary b) {
    b.says("Terms 2", "An E is an int (32 bits, wrapping):");
    value(b, GREATEST, 9999);
    value(b, GREATEST + "+1", 0, 1);
    value(b, GREATEST + "+1<0", 1);
    value(b, GREATEST + "+1=-" + GREATEST + "-1", 1);
    value(b, "-" + GREATEST + "-2", 9999);
    value(b, "-" + GREATEST + "-2=" + GREATEST, 1);
    value(b, "-(" + GREATEST + "+1)<0", 1);
    value(b, "(" + GREATEST + "+1)*-1<0", 1);
    value(b, GREATEST + "*2", 0, 1);
    value(b, GREATEST + "*2+2", 0);
    value(b, GREATEST + "*2+3", 1);
    value(b, "256*256*256*256", 0);
    value(b, "256*256*256*256+7", 7);
    value(b, "256*256*256*128", 0, 1);
    value(b, "256*256*256*128-1", 9999);
    value(b, "256*256*256*128<" + GREATEST, 1);
    value(b, GREATEST + "<256*256*256*128", 0);
    value(b, "9999*9999*9999<0", 9999 * 9999 * 9999 < 0 ? 1 : 0);
  }

  private static void truths(Boundary b) {
    b.says("Terms 2", "of or, and, not, <, = 1 or 0 (what is not 0 is true).");
    String[] truths = {"1", "2", "9999", "(-1)", "(256*256*256*128)"};
    for (String truth : truths) {
      value(b, truth + " or 0", 1);
      value(b, "0 or " + truth, 1);
      value(b, truth + " or " + truth, 1);
      value(b, truth + " and 7", 1);
      value(b, "7 and " + truth, 1);
      value(b, truth + " and 0", 0);
      value(b, "0 and " + truth, 0);
      value(b, "not " + truth, 0);
      value(b, "not not " + truth, 1);
      value(b, truth + "=" + truth, 1);
      value(b, truth + "<" + truth, 0);
    }
    value(b, "0 or 0", 0);
    value(b, "0 and 0", 0);
    value(b, "not 0", 1);
    value(b, "0<0", 0);
    value(b, "0=0", 1);
    value(b, "-1<0", 1);
    value(b, "0<-1", 0);
  }

  private static void faults(Boundary b) {
    b.says("Terms 2", "FAULT: the place of the first byte of the first TOKEN that can't stand there");
    faultAt(b, "^kin", "^1 ? 12345", "cost   ^or ? 12345", "cost 1  \n ^kin ?", "cost 1;\n^strength", "cost 1;let 1 ; ^kin 12345", "cost ^; let ?", "  ^9",
        "cost 1;let 1+^;?");
    b.says("Terms 2", "also of a byte that begins none,");
    faultAt(b, "^?", " \n^\t", "cost^?", "cost ^?", "cost 1^?", "cost 1;^?", "cost 1;let^?", "cost 1;let 1^?", "cost 1;let 1;^?", "cost 1;let 1; ^\u00ff",
        "cost (((((^?", "cost 1 ^>2;let 1;", "cost 1^,1;let 1;", "cost 7^/2;let 1;", "cost 7^%2;let 1;", "cost ^!1;let 1;", "cost ^\"1\";let 1;");
    b.says("Terms 2", "a WORD that is neither KEY nor NAME,");
    faultAt(b, "^costs 1;let 1;", "^cos 1;let 1;", "cost ^price;let 1;", "cost 1 ^xor 1;let 1;", "cost 1;^lets 1;", "cost 1;let 1;^x", "cost ^nots 1;let 1;",
        "cost 1 ^an 1;let 1;", "cost ^o", "cost 1;let ^fixedd;", "cost 1;let ^ixed;");
    b.says("Terms 2", "a NUMBER that is too long,");
    faultAt(b, "^12345", "cost ^12345;let 1;", "cost 1+^00000;let 1;", "cost 1;let ^99999;", "cost 1;let 1;^12345", "cost 9999+^10000;let 1;",
        "cost (^1234567890);let 1;", "cost 1 ^12345;let 1;");
    good(b, "cost 1234;let 1234;");
  }

  private static void endsTooEarly(Boundary b) {
    b.says("Terms 2", "(the text's size, if it ends too early),");
    String[] texts = {"", " ", "\n\n\n", "cost", "cost ", "cost (", "cost ( ", "cost -", "cost not", "cost not ", "cost 1", "cost 1 ", "cost (1", "cost (1)",
        "cost 1+", "cost 1-", "cost 1*", "cost 1<", "cost 1=", "cost 1 or", "cost 1 and ", "cost kin", "cost 1;", "cost 1; ", "cost 1;let", "cost 1;let ",
        "cost 1;let 1", "cost 1;let 1 \n", "cost 1;let (1", "cost 1;let not", " ".repeat(160), "cost" + "\n".repeat(156), "cost (((((", "cost 9999"};
    for (String text : texts) {
      fault(b, text, text.length());
    }
    // cut within a WORD it is another WORD
    faultAt(b, "^cos", "cost ^strengt", "cost 1;^le", "cost 1 ^o", "cost ^no");
  }

  private static void openFive(Boundary b) {
    b.says("Terms 2", "a ( , a not, a - ahead of a ONE while 5 of these are open");
    faultAt(b, "cost (((((^(1))))));let 1;", "cost not not not not not ^not 1;let 1;", "cost -----^-1;let 1;", "cost 1;let (((((^(1))))));",
        "cost 1;let not not not not not ^not 1;", "cost 1;let -----^-1;", "cost (((((^not 1)))));let 1;", "cost (((((^-1)))));let 1;",
        "cost not not not not not ^(1);let 1;", "cost not not not not not ^-1;let 1;", "cost -----^(1);let 1;", "cost (((((^(", "cost -----^-");
    good(b, "cost (((((1)))));let (((((1)))));");
    good(b, "cost -----1;let -----1;");
    good(b, "cost not not not not not 1;let not not not not not 1;");
    good(b, "cost 1-1-1-1-1-1-1-1-1;let 1;");
    good(b, "cost (((((1-1)))));let 1;");
  }

  /** Each row of so many of ( not - that can stand ahead of a ONE. */
  private static List<String> rows(int size) {
    List<String> rows = new ArrayList<>();
    rows.add("");
    for (int i = 0; i < size; i++) {
      List<String> longer = new ArrayList<>();
      for (String row : rows) {
        for (String opener : OPENERS) {
          if (!(row.endsWith("-") && opener.startsWith("not"))) {
            longer.add(row + opener);
          }
        }
      }
      rows = longer;
    }
    return rows;
  }

  private static String closed(String row) {
    return row + "1" + ")".repeat(row.replaceAll("[^(]", "").length());
  }

  private static void open(Boundary b) {
    for (String row : rows(5)) {
      good(b, "cost " + closed(row) + ";let " + closed(row) + ";");
      for (String sixth : OPENERS) {
        fault(b, "cost " + row + sixth + "1;let 1;", 5 + row.length());
      }
    }
  }

  private static void openTill(Boundary b) {
    b.says("Terms 2", "(a ( till its ) , not and - till what they belong to ends).");
    for (String row : rows(5)) {
      good(b, "cost " + closed(row) + " and " + closed(row) + ";let 1;");
      good(b, "cost " + closed(row) + " or " + closed(row) + ";let 1;");
    }
    good(b, "cost (((((1)))))+(((((1)))))*(((((1)))))<(((((1)))));let 1;");
    good(b, "cost -----1------1*-----1<-----1;let 1;");
    good(b, "cost ((((-1+-1))))-((((-1))));let 1;");
    good(b, "cost (not not not not 1)+(not not not not 1);let 1;");
    // a not ends behind the SUM that its own is compared with
    faultAt(b, "cost not not not not not 1+^(1);let 1;", "cost not not not not not 1*^(1);let 1;", "cost not not not not not 1<^(1);let 1;",
        "cost not not not not not 1=^-1;let 1;", "cost not (1)<((((^(1)))));let 1;", "cost not ((((1))))+((((^(1)))));let 1;",
        "cost (1+(1+(1+(1+(1+^(1))))));let 1;", "cost -((((^(1)))));let 1;");
    good(b, "cost not not not not (1)+(1)<(1);let 1;");
    good(b, "cost (1)<(((((1)))));let 1;");
    good(b, "cost -1*(((((1)))))-(((((1)))));let 1;");
  }

  private static void texts(Boundary b) {
    b.says("Terms 2", "There are 6 TEXTS at most, TEXT 0 with them.");
    TwoCamps x = Check.told(2, "a+b50;");
    b.due("count(2)", x.count(2), 1);
    for (int text = 1; text <= 5; text++) {
      b.due("text()", Check.text(x, "cost " + text + ";let 1;"), text);
    }
    b.due("text(), a seventh", Check.text(x, "cost 6;let 1;"), FULL);
    b.due("count(2)", x.count(2), 6);
    for (int text = 5; text >= 0; text--) {
      x.force(text);
      b.due("felt(0, 6) by TEXT " + text, x.felt(0, 6), text == 0 ? 50 : text);
    }
    b.due("force(6)", x.force(6), BAD);
    b.says("Terms 2", "TEXT 0, at first THE RULE, is: cost strength ; let not fixed ;");
    TwoCamps y = Check.told(3, "a+b99!;b-c1k;");
    b.due("count(4)", y.count(4), 0);
    int[][] rows = {{99, 0}, {1, 1}};
    for (int f = 0; f < 2; f++) {
      b.due("felt(" + f + ", 6)", y.felt(f, 6), rows[f][0]);
      b.due("felt(" + f + ", 7)", y.felt(f, 7), rows[f][1]);
    }
  }

  private static void ofFeelings(Boundary b) {
    b.says("Terms 2", "Of a FEELING: strength; hate (1, 0), kin, fixed;");
    TwoCamps x = Check.told(9, "i-b99k!;c+d1;");
    Check.text(x, "cost strength*strength;let hate=1;");
    Check.text(x, "cost kin*10+fixed*100+hate*1000;let kin=1 and fixed=1;");
    Check.text(x, "cost least*10+most;let least=1 and most=8;");
    int[][] costs = {{9801, 1}, {1110, 0}, {18, 23}};
    ofEach(b, x, 1, costs[0]);
    ofEach(b, x, 2, costs[1]);
    b.says("Terms 2", "least, most: the lesser, the greater one of its two PEOPLE.");
    ofEach(b, x, 3, costs[2]);
    TwoCamps y = Check.told(9, "a+i1;");
    Check.text(y, "cost most-least;let least;");
    y.force(1);
    b.due("felt(0, 6)", y.felt(0, 6), 8);
    b.due("felt(0, 7)", y.felt(0, 7), 0);
    b.says("Terms 2", "cost: what it costs if it is WRONG (0 .. 9999, else the bound);");
    value(b, "0", 0, 0);
    value(b, "-1", 0, 1);
    value(b, "-9999*9999", 0, 1);
    value(b, "9998", 9998);
    value(b, "9999", 9999);
    value(b, "9999+1", 9999);
    value(b, "9999*9999", 9999);
    b.says("Terms 2", "let: whether it can be WRONG.");
    int[][] lets = {{0, -1}, {1, 7}};
    for (int[] let : lets) {
      TwoCamps z = Check.told(3, "a-b7;b-c7;c-a7;");
      Check.text(z, "cost strength;let " + let[0] + ";");
      z.force(1);
      b.due("felt(0, 7), let " + let[0], z.felt(0, 7), let[0]);
      b.due("least(), let " + let[0], z.least(), let[1]);
    }
  }

  private static void ofEach(Boundary b, TwoCamps x, int text, int[] costs) {
    x.force(text);
    b.due("felt(0, 6) by TEXT " + text, x.felt(0, 6), costs[0]);
    b.due("felt(1, 6) by TEXT " + text, x.felt(1, 6), costs[1]);
    b.due("felt(0, 7) by TEXT " + text, x.felt(0, 7), 1);
    b.due("felt(1, 7) by TEXT " + text, x.felt(1, 7), 0);
  }

  private static void promise9(Boundary b) {
    TwoCamps x = new TwoCamps();
    b.says("Promise 9", "THE TAPE, which is empty then (by a FAULT, too), is a TEXT: its number;");
    b.due("text()", Check.text(x, "cost 1;let 1;"), 1);
    b.due("count(3)", x.count(3), 0);
    b.due("text() of an empty TAPE", x.text(), -100);
    b.due("text() with a FAULT", Check.text(x, "cost ?"), -105);
    b.due("count(3)", x.count(3), 0);
    b.due("text() of a LINE", Check.text(x, "a+b1;"), -100);
    b.due("text()", Check.text(x, "cost 2;let 0;"), 2);
    b.due("count(3)", x.count(3), 0);
    // what was read ahead of a FAULT is gone, too
    TwoCamps y = Check.told(2, "a+b50;");
    for (int i = 0; i < 5; i++) {
      b.due("text() with a FAULT behind 155 TOKENS", Check.text(y, "cost 1" + "+1".repeat(76) + "+?"), -259);
    }
    b.due("text()", Check.text(y, "cost 2*3+1;let strength<50;"), 1);
    y.force(1);
    b.due("felt(0, 6)", y.felt(0, 6), 7);
    b.due("felt(0, 7)", y.felt(0, 7), 0);
    b.says("Promise 9", "-100 less the place of its FAULT.");
    b.due("text(), FAULT at 0", Check.text(x, "?"), -100);
    b.due("text(), FAULT at 159", Check.text(x, "cost 1" + " ".repeat(153) + "?"), -259);
    b.due("text(), FAULT at 160", Check.text(x, "cost 1" + " ".repeat(154)), -260);
    b.due("count(2), none by a FAULT", x.count(2), 3);
    b.due("text()", Check.text(x, "cost 3;let 0;"), 3);
  }

  private static void promise9Full(Boundary b) {
    b.says("Promise 9", "FULL (ahead of all): no TEXT more has room (THE TAPE stays).");
    TwoCamps x = Check.people(2);
    for (int text = 1; text <= 5; text++) {
      Check.text(x, "cost 1;let 1;");
    }
    b.due("text() of an empty TAPE", x.text(), FULL);
    b.due("text() of a TEXT", Check.text(x, "cost 1;let 1;"), FULL);
    b.due("count(3)", x.count(3), 13);
    b.due("street() of what stayed", x.street(), -100);
    b.due("text() with a FAULT", Check.text(x, "a+b1"), FULL);
    b.due("count(3)", x.count(3), 4);
    b.due("street() of what stayed, and one more", Check.street(x, ";"), 1);
    b.due("text() of an empty TAPE", x.text(), FULL);
    b.due("count(2)", x.count(2), 6);
  }

  private static void promise10(Boundary b) {
    TwoCamps x = Check.told(2, "a+b50!;");
    b.says("Promise 10", "A TEXT is THE RULE: which was.");
    b.due("force(0)", x.force(0), 0);
    for (int text = 1; text <= 5; text++) {
      Check.text(x, "cost " + text + ";let 1;");
      b.due("count(4), still", x.count(4), text - 1);
      b.due("force(" + text + ")", x.force(text), text - 1);
      b.due("count(4)", x.count(4), text);
      b.due("felt(0, 6)", x.felt(0, 6), text);
      b.due("felt(0, 7)", x.felt(0, 7), 1);
    }
    b.due("force(5), the same", x.force(5), 5);
    b.due("force(0)", x.force(0), 5);
    b.due("felt(0, 6)", x.felt(0, 6), 50);
    b.due("felt(0, 7)", x.felt(0, 7), 0);
    b.says("Promise 10", "BAD.");
    for (int text : new int[] {-1, 6, LOW, HIGH}) {
      b.due("force(" + text + ")", x.force(text), BAD);
    }
    b.due("count(4), as it was", x.count(4), 0);
    TwoCamps y = new TwoCamps();
    b.due("force(1), which is none", y.force(1), BAD);
    Check.text(y, "cost 1;let 1;");
    b.due("force(2), which is none", y.force(2), BAD);
    b.due("force(1)", y.force(1), 0);
  }
}
