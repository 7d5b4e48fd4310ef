/** Counts the answers of a test that are not the due ones, and prints each. */
final class Check {
  private int wrong = 0;
  private int looked = 0;

  void due(String call, long got, long want) {
    looked++;
    if (got != want) {
      wrong++;
      System.out.println(call + " answered " + got + ", due is " + want);
    }
  }

  /** Prints how it went; a test with a wrong answer ends with exit code 1. */
  void end(String test) {
    System.out.println(test + ": " + looked + " answers, " + wrong + " not as due");
    if (wrong != 0) {
      System.exit(1);
    }
  }

  /** Feeds a text to THE TAPE, eight bytes at a time. */
  static void feed(TwoCamps street, String text) {
    for (int from = 0; from < text.length(); from += 8) {
      int size = Math.min(8, text.length() - from);
      street.feed(size, packed(text.substring(from, from + size)));
    }
  }

  static long packed(String bytes) {
    long number = 0;
    for (int i = bytes.length() - 1; i >= 0; i--) {
      number = number << 8 | bytes.charAt(i) & 255;
    }
    return number;
  }

  static int street(TwoCamps street, String text) {
    feed(street, text);
    return street.street();
  }

  static int text(TwoCamps street, String text) {
    feed(street, text);
    return street.text();
  }

  /** A new object with so many PEOPLE, of PRICES 1, 2, 3 .. */
  static TwoCamps people(int size) {
    TwoCamps street = new TwoCamps();
    for (int p = 0; p < size; p++) {
      street.person(p + 1);
    }
    return street;
  }

  /** A new object with so many PEOPLE and a STREET told. */
  static TwoCamps told(int size, String lines) {
    TwoCamps street = people(size);
    int answer = street(street, lines);
    if (answer <= 0) {
      throw new IllegalStateException("no STREET: " + lines + " (" + answer + ")");
    }
    return street;
  }

  /** Fills a SHEET of ints. */
  static void sheet(TwoCamps street, int sheet, int... values) {
    street.sheet(sheet, 2, values.length);
    for (int i = 0; i < values.length; i++) {
      street.cell(sheet, i, values[i]);
    }
  }

  /** A CAMPING by camps; it uses SHEET 3. */
  static int camping(TwoCamps street, int kind, int... camps) {
    sheet(street, 3, camps);
    return street.camping(kind, 3);
  }
}
