/**
 * Promises 31 to 35 at their bounds: for each sentence of the document that names one, a test of its
 * own, that quotes it. What is refused stands in RefusalsTest, too.
 */
final class BoundsOfSheetsTest {
  private static final int LEAST = Integer.MIN_VALUE;
  private static final int MOST = Integer.MAX_VALUE;

  public static void main(String[] args) {
    fourSheets();
    atMost24Numbers();
    nBelow0();
    missingWhateverN();
    allZeroAnew();
    firstAndLastNumber();
    lowestBits();
    sheetsSideBySide();
    movesOfNone();
    movesUpToTheEnds();
    movesAsTheyAllWere();
    movesOntoThemselves();
    movesOfEachWidth();
    fundsFrom0To9999();
    fundsUpToTheFirstThatIsNot();
    fundsForNobody();
    judgesOfNone();
    judgesUpToTheFirstWrong();
    judgesFrom0To6();
    judgesOverTheEnd();
    judgesBeyond9999();
    Due.end();
  }

  private static SoldDays people(int many) {
    return Made.people(new int[many]);
  }

  private static void put(SoldDays x, int sheet, int from, int... numbers) {
    for (int i = 0; i < numbers.length; i++) {
      Due.due("32: put(" + sheet + ", " + (from + i) + ", " + numbers[i] + ")", x.put(sheet, from + i, numbers[i]), 1);
    }
  }

  /** How many numbers a SHEET has, by which of them can be moved. */
  private static int size(SoldDays x, int sheet) {
    for (int i = 0; i < 40; i++) {
      if (x.move(sheet, i, sheet, i, 1) != 1) {
        return i;
      }
    }
    return -1;
  }

  /** A SHEET's numbers from some place on, by MONEY of person 0; they are 0 to 9999. */
  private static void numbers(SoldDays x, int sheet, int from, int... want) {
    for (int i = 0; i < want.length; i++) {
      x.sheet(3, 16, 1);
      Due.due("33: a number", x.move(sheet, from + i, 3, 0, 1), 1);
      x.change(0, 1, 1234);
      Due.due("34: a number", x.funds(3), 1);
      Due.due("33: number " + (from + i) + " of " + sheet, x.personIs(0, 3), want[i]);
    }
  }

  /** "SHEETS 0 .. 3 are rows of .., or missing (as at first)." */
  private static void fourSheets() {
    SoldDays x = people(1);
    for (int sheet = 0; sheet < 4; sheet++) {
      Due.due("31: missing as at first", x.put(sheet, 0, 1), Due.NONE);
      Due.due("31: there", x.sheet(sheet, 16, sheet + 1), 1);
      Due.due("31: how many", size(x, sheet), sheet + 1);
    }
    Due.due("31: sheet(4)", x.sheet(4, 16, 1), Due.BEYOND);
    Due.due("31: sheet(-1)", x.sheet(-1, 16, 1), Due.BEYOND);
    for (int sheet = 0; sheet < 4; sheet++) {
      Due.due("31: how many still", size(x, sheet), sheet + 1);
    }
  }

  /** "at most 24 numbers" */
  private static void atMost24Numbers() {
    for (int bits = 8; bits <= 32; bits *= 2) {
      SoldDays x = people(1);
      Due.due("31: 25 of " + bits, x.sheet(0, bits, 25), Due.BEYOND);
      Due.due("31: missing still", x.put(0, 0, 1), Due.NONE);
      Due.due("31: 24 of " + bits, x.sheet(0, bits, 24), 1);
      Due.due("31: how many", size(x, 0), 24);
      Due.due("31: 25 of " + bits, x.sheet(0, bits, 25), Due.BEYOND);
      Due.due("31: how many still", size(x, 0), 24);
      Due.due("31: 0 of " + bits, x.sheet(0, bits, 0), 1);
      Due.due("31: none", size(x, 0), 0);
      Due.due("32: no number 0", x.put(0, 0, 1), Due.BEYOND);
    }
  }

  /** "STATE: n is below 0 (ahead of BEYOND of n)." */
  private static void nBelow0() {
    SoldDays x = people(1);
    for (int bits = 8; bits <= 32; bits *= 2) {
      Due.due("31: -1", x.sheet(0, bits, -1), Due.STATE);
      Due.due("31: least", x.sheet(0, bits, LEAST), Due.STATE);
      Due.due("31: most", x.sheet(0, bits, MOST), Due.BEYOND);
    }
    Due.due("31: BEYOND of the SHEET is first", x.sheet(4, 8, -1), Due.BEYOND);
    Due.due("31: BEYOND of bits is first", x.sheet(0, 9, -1), Due.BEYOND);
    Due.due("41: told(3)", x.told(3), 6);
    Due.due("41: told(1)", x.told(1), 5);
  }

  /** "0: it is missing, n doesn't matter" */
  private static void missingWhateverN() {
    for (int n : new int[] {0, 1, 24, 25, -1, LEAST, MOST}) {
      SoldDays x = people(1);
      Due.due("31: missing already", x.sheet(2, 0, n), 1);
      Due.due("31: there", x.sheet(2, 8, 3), 1);
      Due.due("31: missing, n " + n, x.sheet(2, 0, n), 1);
      Due.due("32: it is missing", x.put(2, 0, 1), Due.NONE);
      Due.due("31: no ERROR", x.told(1) + x.told(3), 0);
    }
  }

  /** "A SHEET has n numbers, all 0": those of one ahead are gone, beyond a smaller n, too. */
  private static void allZeroAnew() {
    SoldDays x = people(1);
    x.sheet(0, 16, 24);
    put(x, 0, 0, 1, 2, 3);
    put(x, 0, 23, 9);
    Due.due("31: fewer", x.sheet(0, 16, 2), 1);
    numbers(x, 0, 0, 0, 0);
    put(x, 0, 0, 5, 6);
    Due.due("31: more", x.sheet(0, 16, 24), 1);
    numbers(x, 0, 0, new int[24]);
    put(x, 0, 7, 7);
    x.sheet(0, 0, 0);
    Due.due("31: there again", x.sheet(0, 16, 24), 1);
    numbers(x, 0, 0, new int[24]);
  }

  /** "BEYOND: no such number." */
  private static void firstAndLastNumber() {
    for (int n : new int[] {1, 2, 23, 24}) {
      SoldDays x = people(1);
      x.sheet(1, 16, n);
      Due.due("32: -1", x.put(1, -1, 1), Due.BEYOND);
      Due.due("32: 0", x.put(1, 0, 5), 1);
      Due.due("32: the last", x.put(1, n - 1, 6), 1);
      Due.due("32: behind it", x.put(1, n, 1), Due.BEYOND);
      numbers(x, 1, 0, n == 1 ? 6 : 5);
      numbers(x, 1, n - 1, 6);
    }
  }

  /** "becomes v (its lowest bits)": {bits, v, MONEY of it, or -1 if it is not 0 to 9999}. */
  private static void lowestBits() {
    int[][] rows = {
      {8, 127, 127}, {8, 256, 0}, {8, 257, 1}, {8, 383, 127}, {8, LEAST, 0}, {8, LEAST + 5, 5}, {8, -256, 0}, {8, -255, 1}, {8, -129, 127}, {8, 9999, 15},
      {16, 9999, 9999}, {16, 10000, -1}, {16, 32767, -1}, {16, 32768, -1}, {16, 65535, -1}, {16, 65536, 0}, {16, 65537, 1}, {16, 65536 + 9999, 9999}, {16, 65536 + 10000, -1}, {16, LEAST, 0}, {16, MOST, -1}, {16, -65536, 0}, {16, -65535, 1}, {16, -1, -1},
      {32, 9999, 9999}, {32, 10000, -1}, {32, 65536, -1}, {32, LEAST, -1}, {32, MOST, -1}, {32, -1, -1},
    };
    for (int[] row : rows) {
      SoldDays x = people(1);
      x.sheet(0, row[0], 1);
      put(x, 0, 0, row[1]);
      String call = "32: " + row[1] + " of " + row[0] + " bits";
      Due.due(call, x.funds(0), row[2] < 0 ? 0 : 1);
      Due.due(call, x.personIs(0, 3), row[2] < 0 ? 100 : row[2]);
    }
  }

  /** The last number of one is not the first one of the next. */
  private static void sheetsSideBySide() {
    SoldDays x = people(1);
    for (int sheet = 0; sheet < 3; sheet++) {
      x.sheet(sheet, 16, 24);
    }
    put(x, 1, 0, 11);
    put(x, 1, 23, 34);
    numbers(x, 0, 23, 0);
    numbers(x, 1, 0, 11, 0);
    numbers(x, 1, 22, 0, 34);
    numbers(x, 2, 0, 0);
    x.sheet(2, 16, 24);
    x.sheet(0, 0, 0);
    numbers(x, 1, 0, 11, 0);
    numbers(x, 1, 22, 0, 34);
  }

  /** "n numbers of a SHEET": none, from and to any place that there is, the end of it, too. */
  private static void movesOfNone() {
    SoldDays x = people(1);
    x.sheet(0, 16, 3);
    x.sheet(1, 16, 0);
    put(x, 0, 0, 1, 2, 3);
    for (int i = 0; i <= 3; i++) {
      Due.due("33: none from " + i, x.move(0, i, 1, 0, 0), 0);
      Due.due("33: none to " + i, x.move(1, 0, 0, i, 0), 0);
    }
    Due.due("33: none behind the end", x.move(0, 4, 1, 0, 0), Due.BEYOND);
    Due.due("33: none to behind the end", x.move(1, 0, 0, 4, 0), Due.BEYOND);
    Due.due("33: none ahead", x.move(0, -1, 1, 0, 0), Due.BEYOND);
    Due.due("33: none to ahead", x.move(1, 0, 0, -1, 0), Due.BEYOND);
    Due.due("33: one of none", x.move(1, 0, 0, 0, 1), Due.BEYOND);
    Due.due("33: one to none", x.move(0, 0, 1, 0, 1), Due.BEYOND);
    numbers(x, 0, 0, 1, 2, 3);
  }

  /** "BEYOND: n, i, or j is below 0, or they don't stand there." */
  private static void movesUpToTheEnds() {
    for (int n = 0; n <= 6; n++) {
      for (int i = -1; i <= 6; i++) {
        for (int j = -1; j <= 5; j++) {
          SoldDays x = people(1);
          x.sheet(0, 32, 5);
          x.sheet(2, 32, 4);
          boolean stand = i >= 0 && j >= 0 && i + n <= 5 && j + n <= 4;
          Due.due("33: move(0, " + i + ", 2, " + j + ", " + n + ")", x.move(0, i, 2, j, n), stand ? n : Due.BEYOND);
          Due.due("33: move(2, " + j + ", 0, " + i + ", " + n + ")", x.move(2, j, 0, i, n), stand ? n : Due.BEYOND);
        }
      }
    }
    SoldDays x = people(1);
    x.sheet(0, 32, 24);
    for (int i : new int[] {0, 1, 23, 24, MOST}) {
      Due.due("33: most from " + i, x.move(0, i, 0, 0, MOST), Due.BEYOND);
      Due.due("33: most to " + i, x.move(0, 0, 0, i, MOST), Due.BEYOND);
    }
    Due.due("33: sums that wrap", x.move(0, MOST, 0, 0, 1), Due.BEYOND);
    Due.due("33: sums that wrap", x.move(0, 0, 0, MOST, 1), Due.BEYOND);
    Due.due("33: sums that wrap", x.move(0, LEAST, 0, LEAST, LEAST), Due.BEYOND);
    Due.due("33: all", x.move(0, 0, 0, 0, 24), 24);
  }

  /** "(or the same), from its number j on, as they all were": by one up and down, and by more. */
  private static void movesAsTheyAllWere() {
    for (int i = 0; i < 5; i++) {
      for (int j = 0; j < 5; j++) {
        int n = 5 - Math.max(i, j);
        SoldDays x = people(1);
        x.sheet(1, 16, 5);
        put(x, 1, 0, 10, 11, 12, 13, 14);
        Due.due("33: move(1, " + i + ", 1, " + j + ", " + n + ")", x.move(1, i, 1, j, n), n);
        int[] want = {10, 11, 12, 13, 14};
        for (int at = 0; at < n; at++) {
          want[j + at] = 10 + i + at;
        }
        numbers(x, 1, 0, want);
      }
    }
  }

  private static void movesOntoThemselves() {
    SoldDays x = people(1);
    x.sheet(0, 16, 24);
    put(x, 0, 0, 1);
    put(x, 0, 23, 24);
    Due.due("33: all onto themselves", x.move(0, 0, 0, 0, 24), 24);
    numbers(x, 0, 0, 1);
    numbers(x, 0, 23, 24);
  }

  /** "KIND: they are of unlike bits." */
  private static void movesOfEachWidth() {
    int[] widths = {8, 16, 32};
    for (int one : widths) {
      for (int other : widths) {
        SoldDays x = people(1);
        x.sheet(0, one, 2);
        x.sheet(1, other, 2);
        put(x, 0, 1, 100);
        Due.due("33: " + one + " to " + other, x.move(0, 1, 1, 0, 1), one == other ? 1 : Due.KIND);
        Due.due("33: none, " + one + " to " + other, x.move(0, 0, 1, 0, 0), one == other ? 0 : Due.KIND);
        x.funds(1);
        Due.due("33: what came", x.personIs(0, 3), one == other ? 100 : 0);
      }
    }
  }

  /** "how many, up to the first that is not 0 to 9999" */
  private static void fundsFrom0To9999() {
    int[] numbers = {-1, 0, 1, 9998, 9999, 10000, LEAST, MOST};
    for (int v : numbers) {
      SoldDays x = people(1);
      x.sheet(0, 32, 1);
      put(x, 0, 0, v);
      boolean isMoney = v >= 0 && v <= 9999;
      Due.due("34: funds of " + v, x.funds(0), isMoney ? 1 : 0);
      Due.due("3: MONEY of " + v, x.personIs(0, 3), isMoney ? v : 100);
    }
  }

  /** ".. (no ERROR then)": those ahead of it become MONEY, those behind it don't. */
  private static void fundsUpToTheFirstThatIsNot() {
    for (int wrong = 0; wrong <= 6; wrong++) {
      SoldDays x = people(6);
      x.sheet(0, 16, 6);
      put(x, 0, 0, 1, 2, 3, 4, 5, 6);
      if (wrong < 6) {
        put(x, 0, wrong, 10000);
      }
      Due.due("34: up to " + wrong, x.funds(0), wrong);
      for (int person = 0; person < 6; person++) {
        Due.due("3: MONEY of " + person, x.personIs(person, 3), person < wrong ? person + 1 : 100);
      }
      for (int k = 1; k <= 6; k++) {
        Due.due("41: told(" + k + ")", x.told(k), 0);
      }
    }
  }

  /** "or for which there is nobody": more numbers than PEOPLE, and fewer. */
  private static void fundsForNobody() {
    for (int many = 0; many <= 6; many++) {
      for (int n : new int[] {0, 1, 5, 6, 7, 24}) {
        SoldDays x = people(many);
        x.sheet(0, 8, n);
        int least = Math.min(many, n);
        Due.due("34: " + n + " numbers of " + many, x.funds(0), least);
        for (int person = 0; person < many; person++) {
          Due.due("3: MONEY of " + person, x.personIs(person, 3), person < least ? 0 : 100);
        }
      }
    }
  }

  /** "how many are right, from the first on": of no numbers, and of nobody. */
  private static void judgesOfNone() {
    SoldDays x = people(2);
    x.sheet(0, 8, 0);
    Due.due("35: of no numbers", x.judge(0), 0);
    SoldDays y = new SoldDays();
    y.sheet(0, 8, 24);
    Due.due("35: nobody is UP", y.judge(0), 24);
    y.put(0, 23, 1);
    Due.due("35: but for the last", y.judge(0), 23);
    y.put(0, 0, 1);
    Due.due("35: the first is wrong", y.judge(0), 0);
  }

  /** Each place of the first SHEET and of the last one; 24: all are right. */
  private static void judgesUpToTheFirstWrong() {
    for (int wrong = 0; wrong <= 24; wrong++) {
      for (int sheet = 0; sheet <= 3; sheet += 3) {
        SoldDays x = people(2);
        x.sheet(sheet, 16, 24);
        for (int i = 0; i < 24; i++) {
          x.put(sheet, i, i == wrong ? 3 : 2);
        }
        Due.due("35: up to " + wrong, x.judge(sheet), wrong);
        x.put(sheet, wrong, -2);
        Due.due("35: up to " + wrong, x.judge(sheet), wrong);
      }
    }
  }

  /** "how many are UP": none to all six. */
  private static void judgesFrom0To6() {
    SoldDays x = people(6);
    x.sheet(0, 8, 7);
    for (int day = 0; day < 7; day++) {
      for (int person = 0; person < 6; person++) {
        x.give(person, day, person < day ? 9 : 0);
      }
      x.put(0, day, day);
    }
    Due.due("35: 0 to 6", x.judge(0), 7);
    x.become(5, 60);
    Due.due("35: a BAILIFF", x.judge(0), 0);
  }

  /** "on the days from now on": behind DAY 27 is DAY 0. */
  private static void judgesOverTheEnd() {
    SoldDays x = people(2);
    x.give(0, 27, 0);
    x.give(0, 1, 0);
    x.days(26);
    x.sheet(0, 8, 5);
    put(x, 0, 0, 2, 1, 2, 1, 2);
    Due.due("35: DAYS 26, 27, 0, 1, 2", x.judge(0), 5);
    Due.due("35: nothing changes", x.count(2), 26);
    x.days(1);
    Due.due("35: from DAY 27 on", x.judge(0), 0);
  }

  /** "(nothing changes; TODAY beyond 9999, too)" */
  private static void judgesBeyond9999() {
    SoldDays x = people(2);
    Made.on(x, 9999);
    x.give(0, 3, 0);
    x.give(0, 26, 0);
    x.sheet(0, 8, 24);
    for (int i = 0; i < 24; i++) {
      x.put(0, i, i == 0 || i == 23 ? 1 : 2);
    }
    Due.due("35: all from 9999 on", x.judge(0), 24);
    Due.due("40: TODAY", x.count(2), 9999);
    Due.due("40: ALONE", x.count(6), 0);
    Due.due("3: AGE", x.personIs(0, 2), 9999);
  }
}
