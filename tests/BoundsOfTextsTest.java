/**
 * Promises 14 to 17 at their bounds: for each sentence of the document that names one, a test of its
 * own, that quotes it. What is refused stands in RefusalsTest, too.
 */
final class BoundsOfTextsTest {
  private static final int LEAST = Integer.MIN_VALUE;
  private static final int MOST = Integer.MAX_VALUE;

  public static void main(String[] args) {
    tapeOfSixtyBytes();
    oneToEightBytes();
    lowestBytesFirst();
    tapeIsEmptyThen();
    tapeStays();
    firstByteOfAnyKind();
    secondByteOfAnyKind();
    numbersOfOneToFourDigits();
    atMostFiveOpen();
    openThatAreClosedAgain();
    oneComparisonAlone();
    noBlanks();
    endsTooEarly();
    longestText();
    oneAheadStays();
    oneAheadIsReplaced();
    untoldOnce();
    intsThatWrap();
    cutTowardZero();
    byZero();
    whatIsNotZeroIsTrue();
    oneOrZero();
    leftToRight();
    heldWithin();
    withoutAText();
    namesOfAnyNumber();
    Due.end();
  }

  private static void fault(int use, String text, int place) {
    SoldDays x = new SoldDays();
    Due.due("15: FAULT of " + text, Due.text(x, use, text), -10 - place);
    Due.due("15: it is no ERROR", x.told(1) + x.told(2) + x.told(3) + x.told(4), 0);
    Due.due("15: there is no TEXT of it", x.untell(use), 0);
  }

  private static void isText(int use, String text) {
    SoldDays x = new SoldDays();
    Due.due("15: TEXT " + text, Due.text(x, use, text), 1);
    Due.due("15: there is a TEXT of it", x.untell(use), 1);
  }

  /** What a TEXT of PRICE gives; its NAMES d, w, h. */
  private static void gives(String text, int d, int w, int h, int want) {
    SoldDays x = new SoldDays();
    Due.due("15: " + text, Due.text(x, 0, text), 1);
    Due.due("17: " + text + " of " + d + ", " + w + ", " + h, x.law(0, d, w, h), want);
  }

  /** "THE TAPE (bytes, at most 60)" */
  private static void tapeOfSixtyBytes() {
    for (int n = 1; n <= 8; n++) {
      SoldDays x = new SoldDays();
      for (int i = 0; i < 60 / n; i++) {
        Due.due("14: feed " + n, x.feed(-1L, n), (i + 1) * n);
      }
      int rest = 60 % n;
      if (rest > 0) {
        Due.due("14: not all of " + n, x.feed(-1L, n), Due.FULL);
        Due.due("40: none of them came", x.count(8), 60 - rest);
        Due.due("14: what there is room for", x.feed(-1L, rest), 60);
      }
      Due.due("14: none more", x.feed(-1L, 1), Due.FULL);
      Due.due("40: sixty", x.count(8), 60);
    }
  }

  /** "The n lowest bytes (1 .. 8) of a word": no byte of those above comes. */
  private static void oneToEightBytes() {
    String signs = "12345678";
    long word = 0x3837363534333231L;
    for (int n = 1; n <= 8; n++) {
      SoldDays x = new SoldDays();
      Due.due("14: feed " + n, x.feed(word, n), n);
      Due.due("15: TEXT of " + signs.substring(0, n), x.text(0), n <= 4 ? 1 : -14);
    }
    SoldDays x = new SoldDays();
    Due.due("14: feed 0", x.feed(word, 0), Due.BEYOND);
    Due.due("14: feed 9", x.feed(word, 9), Due.BEYOND);
    Due.due("40: none came", x.count(8), 0);
  }

  /** ".., the lowest first, come to THE TAPE" */
  private static void lowestBytesFirst() {
    SoldDays x = new SoldDays();
    x.feed(0x372d643634L, 4);
    x.feed(0x2d2d2d372dL, 2);
    Due.due("15: 46d is none", x.text(0), -12);
    x.feed(0x312b3634L, 4);
    x.feed(0x6431L, 1);
    Due.due("15: 46+11", x.text(0), 1);
    Due.due("17: 46+11", x.law(0, 0, 0, 0), 57);
    x.feed(0x30302a39302d3939L, 8);
    Due.due("15: 99-09*00", x.text(0), 1);
    Due.due("17: 99-09*00", x.law(0, 0, 0, 0), 99);
  }

  /** "THE TAPE, which is empty then": behind a TEXT and behind a FAULT; sixty bytes come again. */
  private static void tapeIsEmptyThen() {
    SoldDays x = new SoldDays();
    x.feed('7', 1);
    Due.due("15: 7", x.text(1), 1);
    Due.due("40: empty", x.count(8), 0);
    x.feed('+', 1);
    Due.due("15: +", x.text(1), -10);
    Due.due("40: empty", x.count(8), 0);
    Due.due("15: nothing", x.text(1), -10);
    for (int i = 0; i < 60; i++) {
      Due.due("14: a byte", x.feed('1', 1), i + 1);
    }
    Due.due("14: a byte more", x.feed('1', 1), Due.FULL);
    Due.due("15: 60 digits", x.text(1), -14);
    Due.due("14: a byte again", x.feed('1', 1), 1);
  }

  /** "BEYOND (THE TAPE stays)." */
  private static void tapeStays() {
    SoldDays x = new SoldDays();
    Due.feed(x, "12");
    Due.due("15: text(2)", x.text(2), Due.BEYOND);
    Due.due("15: text(-1)", x.text(-1), Due.BEYOND);
    Due.due("40: it stays", x.count(8), 2);
    Due.due("15: 12", x.text(0), 1);
    Due.due("17: 12", x.law(0, 0, 0, 0), 12);
  }

  /** "FAULT: the place of the first byte with which no TEXT goes on": of all 256 as the first one. */
  private static void firstByteOfAnyKind() {
    for (int use = 0; use < 2; use++) {
      String names = use == 0 ? "dwh" : "atm";
      for (int b = 0; b < 256; b++) {
        SoldDays x = new SoldDays();
        x.feed(b, 1);
        boolean isWhole = b >= '0' && b <= '9' || names.indexOf(b) >= 0;
        boolean goesOn = b == '!' || b == '(';
        Due.due("15: byte " + b + " of USE " + use, x.text(use), isWhole ? 1 : goesOn ? -11 : -10);
      }
    }
  }

  /** The same, of all 256 behind a NAME, behind a NUMBER, and within brackets. */
  private static void secondByteOfAnyKind() {
    for (int b = 0; b < 256; b++) {
      boolean isSign = "|&<=>+-*/%".indexOf(b) >= 0;
      boolean isDigit = b >= '0' && b <= '9';
      Due.due("15: byte " + b + " behind a NAME", behind("d", b), isSign ? -12 : -11);
      Due.due("15: byte " + b + " behind a NUMBER", behind("7", b), isDigit ? 1 : isSign ? -12 : -11);
      Due.due("15: byte " + b + " behind (d", behind("(d", b), b == ')' ? 1 : isSign ? -13 : -12);
      Due.due("15: byte " + b + " behind (d)", behind("(d)", b), isSign ? -14 : -13);
      boolean isWhole = isDigit || "dwh".indexOf(b) >= 0;
      boolean goesOn = b == '!' || b == '(';
      Due.due("15: byte " + b + " behind d+", behind("d+", b), isWhole ? 1 : goesOn ? -13 : -12);
      Due.due("15: byte " + b + " behind !", behind("!", b), isWhole ? 1 : goesOn ? -12 : -11);
    }
  }

  private static int behind(String text, int b) {
    SoldDays x = new SoldDays();
    Due.feed(x, text);
    x.feed(b, 1);
    return x.text(0);
  }

  /** "a NUMBER of 1 to 4 digits" */
  private static void numbersOfOneToFourDigits() {
    isText(0, "0");
    isText(0, "9999");
    isText(0, "0000");
    fault(0, "00000", 4);
    fault(0, "99999", 4);
    fault(0, "d+10000", 6);
    fault(0, "(10000", 5);
    fault(0, "12345678", 4);
    gives("9999-9990+d", 0, 0, 0, 9);
    gives("0099+d", 0, 0, 0, 99);
    gives("9999>9998", 0, 0, 0, 1);
  }

  /** "At most 5 of ! and ( are open at once." */
  private static void atMostFiveOpen() {
    isText(0, "!!!!!d");
    fault(0, "!!!!!!d", 5);
    isText(0, "(((((d)))))");
    fault(0, "((((((d))))))", 5);
    for (int mix = 0; mix < 32; mix++) {
      String opened = opened(mix);
      String closed = ")".repeat(Integer.bitCount(mix));
      isText(0, opened + "d" + closed);
      fault(0, opened + "!d" + closed, 5);
      fault(0, opened + "(d)" + closed, 5);
    }
  }

  /** Five of ! and (, by the bits of a number. */
  private static String opened(int mix) {
    StringBuilder signs = new StringBuilder();
    for (int i = 0; i < 5; i++) {
      signs.append((mix >> i & 1) == 1 ? '(' : '!');
    }
    return signs.toString();
  }

  /** ".. open at once": what is behind one that is closed doesn't count it. */
  private static void openThatAreClosedAgain() {
    isText(0, "!!!!!d+!!!!!d");
    isText(0, "(((((d)))))*(((((d)))))");
    isText(0, "((((!d&!d))))");
    fault(0, "((((!d&!!d))))", 8);
    isText(0, "((((!d)+(d))))");
    isText(0, "((((!d)+((d)))))");
    fault(0, "((((!d)+(((d))))))", 10);
    isText(0, "!(((!d)))|!(((!d)))");
    isText(0, "!d+(((((d)))))");
    isText(0, "!!d*!!!!!w");
    fault(0, "!!d*!!!!!!w", 9);
    gives("!!!!!d", 0, 0, 0, 1);
    gives("!!!!!d", 5, 0, 0, 0);
    gives("(((((d+1)))))*2", 3, 0, 0, 8);
  }

  /** "B: S, or S < S, S = S, S > S": not one more. */
  private static void oneComparisonAlone() {
    for (char one : "<=>".toCharArray()) {
      for (char more : "<=>".toCharArray()) {
        fault(0, "d" + one + "w" + more + "h", 3);
        fault(0, "d&d" + one + "w" + more + "h", 5);
        fault(0, "(d" + one + "w" + more + "h)", 4);
        isText(0, "(d" + one + "w)" + more + "h");
        isText(0, "d" + one + "(w" + more + "h)");
        isText(0, "d" + one + "w&d" + more + "h");
        isText(0, "d" + one + "w|d" + more + "h");
        fault(0, "d" + one + more + "w", 2);
      }
    }
  }

  /** "No blanks." */
  private static void noBlanks() {
    fault(0, " d", 0);
    fault(0, "d ", 1);
    fault(0, "d +w", 1);
    fault(0, "d+ w", 2);
    fault(0, "( d)", 1);
    fault(0, "! d", 1);
    fault(0, "1 2", 1);
    fault(0, "\n", 0);
    fault(0, "d\t", 1);
  }

  /** "how many there are, if it ends too early" */
  private static void endsTooEarly() {
    fault(0, "", 0);
    fault(1, "", 0);
    fault(0, "!", 1);
    fault(0, "(", 1);
    fault(0, "(d", 2);
    fault(0, "((d)", 4);
    fault(0, "(((((", 5);
    fault(0, "!!!!!", 5);
    for (char sign : "|&<=>+-*/%".toCharArray()) {
      fault(0, "d" + sign, 2);
      fault(0, "" + sign, 0);
      fault(0, "d" + sign + sign, 2);
    }
    fault(0, "1+".repeat(30), 60);
    fault(0, "(" + "1+".repeat(29) + "1", 60);
  }

  /** A TEXT of sixty bytes, of most signs, and of most that stands side by side. */
  private static void longestText() {
    isText(0, "1+".repeat(29) + "10");
    gives("1+".repeat(29) + "10", 0, 0, 0, 39);
    gives("d*".repeat(29) + "11", 1, 0, 0, 11);
    gives("!".repeat(5) + "d|(w)" + "|(w)".repeat(12) + "|9", 1, 0, 0, 1);
    gives("!" + "1+".repeat(29) + "1", 0, 0, 0, 29);
    gives("!!!" + "d*".repeat(28) + "d", 1, 0, 0, 0);
    gives("1|".repeat(29) + "12", 0, 0, 0, 1);
    gives("1&".repeat(29) + "10", 0, 0, 0, 1);
    gives("1<12+((((" + "1+".repeat(22) + "1))))*2", 0, 0, 0, 1);
    gives("1|1&1<1+1*(1|1&1<1+1*(1|1&1<1+1*(1|1&1<1+1*(1|1&1<1+1*1))))", 0, 0, 0, 1);
    fault(0, "1+".repeat(29) + "+1", 58);
    fault(0, "1+".repeat(29) + "1+", 60);
    fault(0, "1+".repeat(29) + "1)", 59);
  }

  /** "(no ERROR; the one ahead stays; THE TAPE is empty, too)" */
  private static void oneAheadStays() {
    for (int use = 0; use < 2; use++) {
      SoldDays x = new SoldDays();
      Due.text(x, use, "41");
      Due.due("15: ends too early", Due.text(x, use, "(((42"), -15);
      Due.due("15: THE TAPE is empty", x.count(8), 0);
      Due.due("15: nothing at all", x.text(use), -10);
      Due.due("17: the one ahead stays", x.law(use, 0, 0, 0), 41);
      for (int k = 1; k <= 6; k++) {
        Due.due("15: no ERROR", x.told(k), 0);
      }
    }
  }

  /** "is the TEXT of a USE (0, 1), in place of one ahead": a shorter one, too; not of the other USE. */
  private static void oneAheadIsReplaced() {
    SoldDays x = new SoldDays();
    Due.text(x, 0, "1+2+3+4+5");
    Due.text(x, 1, "60+2");
    Due.due("17: 15", x.law(0, 0, 0, 0), 15);
    Due.due("15: 8", Due.text(x, 0, "8"), 1);
    Due.due("17: 8", x.law(0, 0, 0, 0), 8);
    Due.due("17: that of the other USE", x.law(1, 0, 0, 0), 62);
    Due.due("15: 9", Due.text(x, 1, "9"), 1);
    Due.due("17: 9", x.law(1, 0, 0, 0), 9);
    Due.due("17: that of the other USE", x.law(0, 0, 0, 0), 8);
  }

  /** "There is no TEXT of a USE any more: 1 if there was, else 0." */
  private static void untoldOnce() {
    for (int use = 0; use < 2; use++) {
      SoldDays x = new SoldDays();
      Due.text(x, 0, "8");
      Due.text(x, 1, "8");
      Due.due("16: there was", x.untell(use), 1);
      Due.due("16: there isn't", x.untell(use), 0);
      Due.due("17: as without", x.law(use, 0, 0, 0), use == 0 ? 10 : 0);
      Due.due("17: that of the other USE", x.law(1 - use, 0, 0, 0), 8);
      Due.due("15: again", Due.text(x, use, "7"), 1);
      Due.due("17: again", x.law(use, 0, 0, 0), 7);
    }
  }

  /** "Ints that wrap" */
  private static void intsThatWrap() {
    gives("d+w", MOST, LEAST, 0, 0);
    gives("d+1<0", MOST, 0, 0, 1);
    gives("d+1=w", MOST, LEAST, 0, 1);
    gives("d-1=w", LEAST, MOST, 0, 1);
    gives("0-d=d", LEAST, 0, 0, 1);
    gives("d*w=h", 65536, 65536, 0, 1);
    gives("d*w=h", MOST, 2, -2, 1);
    gives("d*w=h", LEAST, -1, LEAST, 1);
    gives("d/w=h", LEAST, -1, LEAST, 1);
    gives("d%w=h", LEAST, -1, 0, 1);
    gives("9999*9999*9999<0", 0, 0, 0, 1);
    gives("9999*9999>9999", 0, 0, 0, 1);
  }

  /** "/ cut, % the rest that it leaves" */
  private static void cutTowardZero() {
    gives("d/w=h", 7, 2, 3, 1);
    gives("d/w=h", -7, 2, -3, 1);
    gives("d/w=h", 7, -2, -3, 1);
    gives("d/w=h", -7, -2, 3, 1);
    gives("d/w=h", -1, 2, 0, 1);
    gives("d%w=h", 7, 4, 3, 1);
    gives("d%w=h", -7, 4, -3, 1);
    gives("d%w=h", 7, -4, 3, 1);
    gives("d%w=h", -7, -4, -3, 1);
    gives("d%w=h", 8, 4, 0, 1);
    gives("d%w=h", LEAST, MOST, -1, 1);
    gives("d/w=h", LEAST, MOST, -1, 1);
  }

  /** "both by 0 are 0" */
  private static void byZero() {
    gives("5+d/0", 9, 0, 0, 5);
    gives("5+d%0", 9, 0, 0, 5);
    gives("5+d/w", LEAST, 0, 0, 5);
    gives("5+d%w", LEAST, 0, 0, 5);
    gives("5+0/0", 0, 0, 0, 5);
    gives("5+0%0", 0, 0, 0, 5);
    gives("5+9/(d-d)*8", 3, 0, 0, 5);
    gives("1|9/0", 3, 0, 0, 1);
  }

  /** "| & < = > ! are 1 or 0, what is not 0 being true" */
  private static void whatIsNotZeroIsTrue() {
    for (int v : new int[] {1, 2, 999, -1, LEAST, MOST}) {
      gives("d|0", v, 0, 0, 1);
      gives("0|d", v, 0, 0, 1);
      gives("d&w", v, v, 0, 1);
      gives("d&0", v, 0, 0, 0);
      gives("0&d", v, 0, 0, 0);
      gives("!d", v, 0, 0, 0);
      gives("!!d", v, 0, 0, 1);
    }
    gives("!0", 0, 0, 0, 1);
    gives("0|0", 0, 0, 0, 0);
    gives("d<w", LEAST, MOST, 0, 1);
    gives("d>w", LEAST, MOST, 0, 0);
    gives("d=w", LEAST, LEAST, 0, 1);
    gives("d<w", MOST, MOST, 0, 0);
    gives("d>w", MOST, MOST, 0, 0);
    gives("d<w", -1, 0, 0, 1);
    gives("d>w", 0, -1, 0, 1);
    gives("(5<6)*7", 0, 0, 0, 7);
  }

  /** "| & < = > ! are 1 or 0": nothing else, as what is added to it shows. */
  private static void oneOrZero() {
    String[] are1 = {"d|0", "0|d", "d|d", "d&d", "d>0", "0<d", "d=d", "!0", "!!d"};
    String[] are0 = {"0|0", "d&0", "0&d", "0&0", "d<0", "0>d", "d=0", "d<d", "d>d", "!d", "!!0"};
    for (String text : are1) {
      gives("5+(" + text + ")", 7, 0, 0, 6);
    }
    for (String text : are0) {
      gives("5+(" + text + ")", 7, 0, 0, 5);
    }
  }

  /** "S: P { + P, - P }. P: Q { * Q, / Q, % Q }": from left to right, and * / % ahead of + -. */
  private static void leftToRight() {
    gives("d-w-h", 100, 30, 7, 63);
    gives("d-w+h", 100, 30, 7, 77);
    gives("d/w/h", 100, 5, 3, 6);
    gives("d/w*h", 100, 30, 7, 21);
    gives("d*w/h", 100, 30, 7, 428);
    gives("d%w*h", 100, 30, 7, 70);
    gives("d+w*h", 100, 30, 7, 310);
    gives("d*w+h", 10, 30, 7, 307);
    gives("!d*w", 0, 30, 7, 30);
    gives("!d+w", 1, 30, 7, 30);
    gives("d+w<h", 1, 2, 3, 0);
    gives("d<w+h", 4, 2, 3, 1);
    gives("d&w=h", 5, 2, 2, 1);
    gives("d|w&h", 5, 0, 0, 1);
    gives("d&w|h", 0, 1, 1, 1);
  }

  /** "held within 0 .. 999", "held within 0 .. 99" */
  private static void heldWithin() {
    int[] most = {999, 99};
    for (int use = 0; use < 2; use++) {
      SoldDays x = new SoldDays();
      Due.text(x, use, use == 0 ? "d" : "a");
      for (int v : new int[] {0, 1, most[use] - 1, most[use]}) {
        Due.due("17: within", x.law(use, v, 0, 0), v);
      }
      Due.due("17: above", x.law(use, most[use] + 1, 0, 0), most[use]);
      Due.due("17: far above", x.law(use, MOST, 0, 0), most[use]);
      Due.due("17: below", x.law(use, -1, 0, 0), 0);
      Due.due("17: far below", x.law(use, LEAST, 0, 0), 0);
    }
  }

  /** "without a TEXT 10, or 15, if w is above 4", "without a TEXT 0" */
  private static void withoutAText() {
    SoldDays x = new SoldDays();
    for (int w : new int[] {LEAST, -1, 0, 1, 2, 3, 4}) {
      Due.due("17: w " + w, x.law(0, 9, w, 9), 10);
    }
    for (int w : new int[] {5, 6, 7, 999, MOST}) {
      Due.due("17: w " + w, x.law(0, 0, w, 0), 15);
    }
    for (int v : new int[] {LEAST, -1, 0, 1, 5, 99, MOST}) {
      Due.due("17: DUES", x.law(1, v, v, v), 0);
    }
  }

  /** "NAMES d DAY, w weekday, h ..", "NAMES a AGE, t TODAY, m MONEY": "in order as a, b, c" */
  private static void namesOfAnyNumber() {
    String[] names = {"dwh", "atm"};
    for (int use = 0; use < 2; use++) {
      for (int i = 0; i < 3; i++) {
        SoldDays x = new SoldDays();
        Due.due("15: a NAME", Due.text(x, use, names[use].substring(i, i + 1)), 1);
        Due.due("17: a NAME", x.law(use, 11, 22, 33), 11 * (i + 1));
        fault(1 - use, names[use].substring(i, i + 1), 0);
        fault(1 - use, "1+" + names[use].charAt(i), 2);
        fault(use, names[use].substring(i, i + 1).toUpperCase(), 0);
      }
    }
  }
}
