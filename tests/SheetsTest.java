/** Promises 31 to 35: sheets, and what they tell. */
final class SheetsTest {
  private static final int LEAST = Integer.MIN_VALUE;
  private static final int MOST = Integer.MAX_VALUE;

  public static void main(String[] args) {
    sheets();
    puts();
    lowestBits();
    moves();
    wrongMoves();
    funds();
    judges();
    Due.end();
  }

  private static void sheets() {
    SoldDays x = new SoldDays();
    Due.due("31: sheet(4, 8, 1)", x.sheet(4, 8, 1), Due.BEYOND);
    Due.due("31: sheet(-1, 8, 1)", x.sheet(-1, 8, 1), Due.BEYOND);
    Due.due("31: sheet(0, 64, 1)", x.sheet(0, 64, 1), Due.BEYOND);
    Due.due("31: sheet(0, -8, 1)", x.sheet(0, -8, 1), Due.BEYOND);
    Due.due("31: sheet(0, 7, -1)", x.sheet(0, 7, -1), Due.BEYOND);
    Due.due("31: sheet(4, 8, -1)", x.sheet(4, 8, -1), Due.BEYOND);
    Due.due("31: sheet(0, 8, -1)", x.sheet(0, 8, -1), Due.STATE);
    Due.due("31: sheet(0, 32, least)", x.sheet(0, 32, LEAST), Due.STATE);
    Due.due("31: sheet(0, 8, 25)", x.sheet(0, 8, 25), Due.BEYOND);
    Due.due("31: still missing", x.judge(0), Due.NONE);
    Due.due("31: sheet(3, 16, 24)", x.sheet(3, 16, 24), 1);
    Due.due("31: all 0", x.judge(3), 24);
    x.put(3, 5, 1);
    Due.due("31: STATE changes nothing", x.sheet(3, 8, -1), Due.STATE);
    Due.due("31: still there", x.judge(3), 5);
    Due.due("31: all 0 anew", x.sheet(3, 16, 24), 1);
    Due.due("31: all 0 anew", x.judge(3), 24);
    Due.due("31: fewer", x.sheet(3, 8, 2), 1);
    Due.due("31: fewer", x.judge(3), 2);
    Due.due("31: missing, any n", x.sheet(3, 0, -9), 1);
    Due.due("31: missing", x.judge(3), Due.NONE);
    Due.due("31: missing, any n", x.sheet(3, 0, 99), 1);
    Due.due("31: none", x.sheet(0, 32, 0), 1);
    Due.due("31: none", x.judge(0), 0);
  }

  private static void puts() {
    SoldDays x = new SoldDays();
    Due.due("32: put(0, 0, 1)", x.put(0, 0, 1), Due.NONE);
    Due.due("32: missing ahead of no such number", x.put(0, -1, 1), Due.NONE);
    Due.due("32: put(4, 0, 1)", x.put(4, 0, 1), Due.BEYOND);
    Due.due("32: put(-1, 0, 1)", x.put(-1, 0, 1), Due.BEYOND);
    x.sheet(0, 8, 3);
    Due.due("32: put(0, 3, 1)", x.put(0, 3, 1), Due.BEYOND);
    Due.due("32: put(0, -1, 1)", x.put(0, -1, 1), Due.BEYOND);
    Due.due("32: put(0, 2, 1)", x.put(0, 2, 1), 1);
    Due.due("32: number 2", x.judge(0), 2);
  }

  /** What comes back as MONEY of a number that was put, -1 if it is not 0 to 9999. */
  private static void lowestBits() {
    int[][] rows = {
      {8, 0, 0}, {8, 127, 127}, {8, 256, 0}, {8, 300, 44}, {8, 65536 + 7, 7},
      {16, 300, 300}, {16, 9999, 9999}, {16, 10000, -1}, {16, -1, -1}, {16, 65536, 0}, {16, 65536 + 500, 500}, {16, 40000, -1},
      {32, 9999, 9999}, {32, 10000, -1}, {32, -1, -1}, {32, 65536, -1}, {32, LEAST, -1}, {32, MOST, -1},
    };
    for (int[] row : rows) {
      SoldDays x = new SoldDays();
      x.person(0);
      x.sheet(1, row[0], 1);
      Due.due("32: put(1, 0, " + row[1] + ")", x.put(1, 0, row[1]), 1);
      String call = "34: " + row[1] + " of " + row[0] + " bits";
      Due.due(call, x.funds(1), row[2] < 0 ? 0 : 1);
      Due.due(call, x.personIs(0, 3), row[2] < 0 ? 100 : row[2]);
    }
  }

  /** A sheet's numbers as MONEY of six. */
  private static void numbers(SoldDays x, int sheet, int... want) {
    for (int i = 0; i < want.length; i++) {
      x.change(i, 1, 9999);
    }
    Due.due("34: funds(" + sheet + ")", x.funds(sheet), want.length);
    for (int i = 0; i < want.length; i++) {
      Due.due("33: number " + i + " of " + sheet, x.personIs(i, 3), want[i]);
    }
  }

  private static SoldDays six() {
    SoldDays x = new SoldDays();
    for (int i = 0; i < 6; i++) {
      x.person(0);
    }
    return x;
  }

  private static void moves() {
    SoldDays x = six();
    x.sheet(0, 16, 6);
    x.sheet(1, 16, 4);
    for (int i = 0; i < 6; i++) {
      x.put(0, i, 10 + i);
    }
    Due.due("33: to another", x.move(0, 2, 1, 1, 3), 3);
    numbers(x, 1, 0, 12, 13, 14);
    numbers(x, 0, 10, 11, 12, 13, 14, 15);
    Due.due("33: up within", x.move(0, 0, 0, 2, 4), 4);
    numbers(x, 0, 10, 11, 10, 11, 12, 13);
    Due.due("33: down within", x.move(0, 1, 0, 0, 5), 5);
    numbers(x, 0, 11, 10, 11, 12, 13, 13);
    Due.due("33: none", x.move(0, 6, 1, 4, 0), 0);
    Due.due("33: all", x.move(1, 0, 0, 2, 4), 4);
    numbers(x, 0, 11, 10, 0, 12, 13, 14);
  }

  private static void wrongMoves() {
    SoldDays x = six();
    x.sheet(0, 16, 6);
    x.sheet(1, 16, 4);
    x.sheet(2, 8, 4);
    Due.due("33: no such", x.move(4, 0, 0, 0, 0), Due.BEYOND);
    Due.due("33: no such other", x.move(0, 0, -1, 0, 0), Due.BEYOND);
    Due.due("33: no such, and one missing", x.move(3, 0, 4, 0, 0), Due.BEYOND);
    Due.due("33: missing", x.move(3, 0, 0, 0, -1), Due.NONE);
    Due.due("33: missing other", x.move(0, 0, 3, 0, 1), Due.NONE);
    Due.due("33: unlike", x.move(0, 0, 2, 0, -1), Due.KIND);
    Due.due("33: n below 0", x.move(0, 0, 1, 0, -1), Due.BEYOND);
    Due.due("33: i below 0", x.move(0, -1, 1, 0, 1), Due.BEYOND);
    Due.due("33: j below 0", x.move(0, 0, 1, -1, 1), Due.BEYOND);
    Due.due("33: not there", x.move(0, 4, 1, 0, 3), Due.BEYOND);
    Due.due("33: not there in the other", x.move(0, 0, 1, 2, 3), Due.BEYOND);
    Due.due("33: i of most", x.move(0, MOST, 1, 0, 1), Due.BEYOND);
    Due.due("33: j of most", x.move(0, 0, 1, MOST, 1), Due.BEYOND);
    Due.due("33: n of most", x.move(0, 1, 1, 1, MOST), Due.BEYOND);
    Due.due("33: all of least", x.move(0, LEAST, 1, LEAST, LEAST), Due.BEYOND);
    Due.due("33: none, but i isn't there", x.move(0, 7, 1, 0, 0), Due.BEYOND);
    x.put(0, 0, 5);
    Due.due("33: not there in the other", x.move(0, 0, 1, 0, 5), Due.BEYOND);
    numbers(x, 1, 0, 0, 0, 0);
  }

  private static void funds() {
    SoldDays x = new SoldDays();
    x.person(0);
    x.person(0);
    x.person(0);
    Due.due("34: funds(4)", x.funds(4), Due.BEYOND);
    Due.due("34: funds(-1)", x.funds(-1), Due.BEYOND);
    Due.due("34: funds(0)", x.funds(0), Due.NONE);
    x.sheet(0, 32, 5);
    x.put(0, 0, 9999);
    x.put(0, 1, -1);
    x.put(0, 2, 7);
    Due.due("34: the first", x.funds(0), 1);
    Due.due("34: the first", x.personIs(0, 3), 9999);
    Due.due("34: not the next", x.personIs(1, 3), 100);
    Due.due("34: not one behind", x.personIs(2, 3), 100);
    x.put(0, 1, 6);
    Due.due("34: for nobody", x.funds(0), 3);
    Due.due("34: no ERROR", x.told(1), 2);
    Due.due("34: the last", x.personIs(2, 3), 7);
  }

  private static void judges() {
    SoldDays x = new SoldDays();
    Due.due("35: judge(4)", x.judge(4), Due.BEYOND);
    Due.due("35: judge(-1)", x.judge(-1), Due.BEYOND);
    Due.due("35: judge(0)", x.judge(0), Due.NONE);
    x.person(0);
    x.person(12);
    x.sheet(0, 8, 4);
    Due.due("35: none is right", x.judge(0), 0);
    int[] up = {2, 2, 1, 2};
    for (int i = 0; i < 4; i++) {
      x.put(0, i, up[i]);
      Due.due("35: the first " + (i + 1), x.judge(0), i + 1);
    }
    x.put(0, 1, 1);
    Due.due("35: up to the first wrong one", x.judge(0), 1);
    x.put(0, 1, 2);
    x.days(1);
    Due.due("35: from TODAY's on", x.judge(0), 1);
    Due.due("35: nothing changes", x.count(2), 1);
    for (int i = 0; i < 166; i++) {
      x.days(60);
    }
    x.days(37);
    Due.due("35: TODAY", x.count(2), 9998);
    int[] late = {2, 2, 1, 2};
    for (int i = 0; i < 4; i++) {
      x.give(0, (9998 + i) % 28, late[i]);
      x.put(0, i, (9998 + i) % 7 == 2 ? 1 : 2);
    }
    Due.due("35: beyond 9999", x.judge(0), 4);
  }
}
