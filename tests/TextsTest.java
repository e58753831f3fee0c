/** Promises 14 to 17: THE TAPE, texts, faults, laws. */
final class TextsTest {
  public static void main(String[] args) {
    tape();
    texts();
    faults();
    worths();
    laws();
    Due.end();
  }

  private static void tape() {
    SoldDays x = new SoldDays();
    Due.due("14: feed(0, 0)", x.feed(0, 0), Due.BEYOND);
    Due.due("14: feed(0, 9)", x.feed(0, 9), Due.BEYOND);
    Due.due("14: feed(0, -1)", x.feed(0, -1), Due.BEYOND);
    long word = 0;
    String signs = "12+34*2d";
    for (int i = 7; i >= 0; i--) {
      word = word << 8 | signs.charAt(i);
    }
    Due.due("14: seven of eight", x.feed(word, 7), 7);
    Due.due("15: 12+34*2", x.text(0), 1);
    Due.due("14: the lowest first", x.law(0, 0, 0, 0), 80);
    for (int i = 1; i <= 7; i++) {
      Due.due("14: feed 8", x.feed(-1L, 8), 8 * i);
    }
    Due.due("14: 5 are too many", x.feed(0, 5), Due.FULL);
    Due.due("14: 9 are BEYOND first", x.feed(0, 9), Due.BEYOND);
    Due.due("40: bytes", x.count(8), 56);
    Due.due("14: 4 do", x.feed(0, 4), 60);
    Due.due("14: 1 is too many", x.feed(0, 1), Due.FULL);
    Due.due("15: text(2)", x.text(2), Due.BEYOND);
    Due.due("15: text(-1)", x.text(-1), Due.BEYOND);
    Due.due("15: THE TAPE stays", x.count(8), 60);
    Due.due("15: a byte of 255", x.text(0), -10);
    Due.due("15: THE TAPE is empty", x.count(8), 0);
  }

  private static void texts() {
    SoldDays x = new SoldDays();
    Due.due("15: 7", Due.text(x, 0, "7"), 1);
    Due.due("15: THE TAPE is empty", x.count(8), 0);
    Due.due("15: in place", Due.text(x, 0, "8"), 1);
    Due.due("15: 8", x.law(0, 0, 0, 0), 8);
    Due.due("15: a fault", Due.text(x, 0, "9+"), -12);
    Due.due("15: the one ahead stays", x.law(0, 0, 0, 0), 8);
    Due.due("15: DUES have none", x.law(1, 1, 2, 3), 0);
    Due.due("16: untell(2)", x.untell(2), Due.BEYOND);
    Due.due("16: untell(-1)", x.untell(-1), Due.BEYOND);
    Due.due("16: untell(1)", x.untell(1), 0);
    Due.due("16: untell(0)", x.untell(0), 1);
    Due.due("16: untell(0) again", x.untell(0), 0);
    Due.due("16: as without", x.law(0, 0, 0, 0), 10);
    for (int k = 1; k <= 6; k++) {
      Due.due("15: a FAULT is no ERROR: told(" + k + ")", x.told(k), k == 1 ? 2 : 0);
    }
  }

  private static void faults() {
    fault(0, "", 0);
    fault(0, "12345", 4);
    fault(0, "0000", -1);
    fault(0, "1 ", 1);
    fault(0, " 1", 0);
    fault(0, "d+x", 2);
    fault(0, "a", 0);
    fault(1, "d", 0);
    fault(1, "a+t+m", -1);
    fault(0, "d+w+h", -1);
    fault(0, "dw", 1);
    fault(0, "1d", 1);
    fault(0, "d1", 1);
    fault(0, "1<2<3", 3);
    fault(0, "1<2=3", 3);
    fault(0, "1<2&3>4|5=6", -1);
    fault(0, "(1<2)<3", -1);
    fault(0, "(1<2<3)", 4);
    fault(0, "1+", 2);
    fault(0, "1++2", 2);
    fault(0, "-1", 0);
    fault(0, "()", 1);
    fault(0, ")", 0);
    fault(0, "(1", 2);
    fault(0, "(1))", 3);
    fault(0, "1|", 2);
    fault(0, "!", 1);
    fault(0, "1!", 1);
    fault(0, "!!!!!1", -1);
    fault(0, "!!!!!!1", 5);
    fault(0, "(((((1)))))", -1);
    fault(0, "((((((1))))))", 5);
    fault(0, "!(!(!1))", -1);
    fault(0, "!(!(!(1)))", 5);
    fault(0, "!!!!!1+!!!!!2", -1);
    fault(0, "(!!!!1)&!(((!(1", 13);
    fault(0, "(((((1", 6);
    fault(0, "(((((1)*(2", 10);
    fault(0, "(((((1*(2", 7);
    fault(0, "((((1)*(2", 9);
    fault(0, "1,2", 1);
    fault(0, "D", 0);
    StringBuilder longest = new StringBuilder("1");
    for (int i = 0; i < 29; i++) {
      longest.append("+1");
    }
    fault(0, longest.toString(), -1);
    fault(0, longest + "+", 60);
  }

  private static void fault(int use, String signs, int place) {
    SoldDays x = new SoldDays();
    Due.due("15: " + signs, Due.text(x, use, signs), place < 0 ? 1 : -10 - place);
  }

  private static void worths() {
    worth("d+w*h", 1, 2, 3, 7);
    worth("(d+w)*h", 1, 2, 3, 9);
    worth("d-w-h", 9, 2, 3, 4);
    worth("d/w/h", 90, 2, 3, 15);
    worth("d/w*h", 7, 2, 3, 9);
    worth("d%w*h", 7, 4, 3, 9);
    worth("d*w%h", 7, 4, 5, 3);
    worth("d-w*2+h", 9, 2, 3, 8);
    worth("0-d/w", 7, 2, 0, 0);
    worth("5+d/w", -7, 2, 0, 2);
    worth("5+d%w", -7, 4, 0, 2);
    worth("5+d%w", 7, -4, 0, 8);
    worth("5+d/0", 7, 0, 0, 5);
    worth("5+d%w", 7, 0, 0, 5);
    worth("5+d%w", Integer.MIN_VALUE, -1, 0, 5);
    worth("5+(d/w<0)", Integer.MIN_VALUE, -1, 0, 6);
    worth("d+w<0", Integer.MAX_VALUE, 1, 0, 1);
    worth("d*d=0", 65536, 0, 0, 1);
    worth("d<w", 1, 2, 0, 1);
    worth("d<w", 2, 2, 0, 0);
    worth("d>w", 3, 2, 0, 1);
    worth("d>w", 2, 2, 0, 0);
    worth("d=w", 2, 2, 0, 1);
    worth("d=w", 2, 1, 0, 0);
    worth("d|w", 5, 0, 0, 1);
    worth("d|w", 0, -2, 0, 1);
    worth("d|w", 0, 0, 0, 0);
    worth("d&w", 5, 7, 0, 1);
    worth("d&w", 5, 0, 0, 0);
    worth("d&w", 0, 5, 0, 0);
    worth("1|d&w", 0, 0, 0, 1);
    worth("(1|d)&w", 0, 0, 0, 0);
    worth("1&2<3", 0, 0, 0, 1);
    worth("4&3<2", 0, 0, 0, 0);
    worth("2<1+2", 0, 0, 0, 1);
    worth("!d", 0, 0, 0, 1);
    worth("!d", 7, 0, 0, 0);
    worth("!!d", 7, 0, 0, 1);
    worth("!d+5", 0, 0, 0, 6);
    worth("!d*5", 0, 0, 0, 5);
    worth("0012+d", 1, 0, 0, 13);
    worth("999", 0, 0, 0, 999);
    worth("9999", 0, 0, 0, 999);
    worth("0-1", 0, 0, 0, 0);
  }

  private static void worth(String signs, int a, int b, int c, int want) {
    SoldDays x = new SoldDays();
    Due.due("15: " + signs, Due.text(x, 0, signs), 1);
    Due.due("17: " + signs + " of " + a + ", " + b + ", " + c, x.law(0, a, b, c), want);
  }

  private static void laws() {
    SoldDays x = new SoldDays();
    Due.due("17: law(2, 0, 0, 0)", x.law(2, 0, 0, 0), Due.BEYOND);
    Due.due("17: law(-1, 0, 0, 0)", x.law(-1, 0, 0, 0), Due.BEYOND);
    Due.due("17: usual price", x.law(0, 5, 4, 5), 10);
    Due.due("17: usual price, w above 4", x.law(0, 0, 5, 0), 15);
    Due.due("17: usual price, any w", x.law(0, 0, Integer.MAX_VALUE, 0), 15);
    Due.due("17: usual dues", x.law(1, 9, 9, 9), 0);
    Due.text(x, 1, "a*100+t*10+m-300");
    Due.due("17: NAMES of DUES in order", x.law(1, 3, 2, 1), 21);
    Due.due("17: held at 99", x.law(1, 9, 2, 1), 99);
    Due.due("17: held at 0", x.law(1, 0, 2, 1), 0);
    Due.text(x, 0, "d*100+w*10+h");
    Due.due("17: NAMES of PRICE in order", x.law(0, 3, 2, 1), 321);
  }
}
