/** What is due at the boundaries: each answer stands for a sentence of the document, and is told with it. */
final class Boundary {
  static final int NONE = -1, BAD = -2, STATE = -3, FULL = -4, NO_SUCH = -5;
  static final int NOTHING = -11, OUTSIDE = -12, OTHER_SORT = -13, BELOW_ZERO = -14;
  static final long NO = -4611686018427387904L;
  static final int LOW = Integer.MIN_VALUE, HIGH = Integer.MAX_VALUE, ASIDE = 9;

  private final Document document;
  private String sentence = "";
  private int answersOfIt = 1;
  private int sentences = 0;
  private int answers = 0;
  private int wrong = 0;

  Boundary(Document document) {
    this.document = document;
  }

  /** What is asked from here on stands for a sentence. */
  void says(String section, String words) {
    endSentence();
    sentence = section + ", \"" + words + "\"";
    answersOfIt = 0;
    sentences++;
    if (!document.says(section, words)) {
      fail(sentence + " does not stand there, or twice");
    }
  }

  void due(String call, long got, long want) {
    answers++;
    answersOfIt++;
    if (got != want) {
      fail(sentence + ": " + call + " answered " + got + ", due is " + want);
    }
  }

  private void endSentence() {
    if (answersOfIt == 0) {
      fail(sentence + ": nothing is asked for it");
    }
  }

  private void fail(String what) {
    wrong++;
    System.out.println(what);
  }

  /** Prints how it went; ends with exit code 1 if an answer was wrong, or a sentence has no test. */
  void end(String test) {
    endSentence();
    for (String words : document.unsaid()) {
      fail("no test stands for " + words);
    }
    System.out.println(test + ": " + sentences + " sentences, " + answers + " answers, " + wrong + " not as due");
    if (wrong != 0) {
      System.exit(1);
    }
  }
}
