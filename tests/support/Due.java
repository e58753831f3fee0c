/** Counts the calls whose answer is not the one that is due, and prints each of them. */
final class Due {
  static final long LOW = -1000000000L;
  static final long BEYOND = LOW - 1;
  static final long NONE = LOW - 2;
  static final long STATE = LOW - 3;
  static final long FULL = LOW - 4;
  static final long KIND = LOW - 5;
  static final long PARTED = LOW - 6;

  private static int asked = 0;
  private static int wrong = 0;

  private Due() {}

  static void due(String call, long got, long want) {
    asked++;
    if (got != want) {
      wrong++;
      System.out.println(call + " answered " + got + ", due is " + want);
    }
  }

  /** Feeds the signs of a text to THE TAPE, one by one. */
  static void feed(SoldDays x, String signs) {
    for (int i = 0; i < signs.length(); i++) {
      x.feed(signs.charAt(i), 1);
    }
  }

  /** What text(use) answers, when THE TAPE was empty and the text was fed. */
  static int text(SoldDays x, int use, String signs) {
    feed(x, signs);
    return x.text(use);
  }

  static void end() {
    System.out.println(asked + " answers, " + wrong + " not as due");
    if (wrong != 0) {
      System.exit(1);
    }
  }
}
