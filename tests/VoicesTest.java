/** Promises 29 and 30: voices and the trace of their bodies. */
final class VoicesTest {
  public static void main(String[] args) {
    persons();
    students();
    widows();
    heirs();
    truants();
    merry();
    bailiffs();
    wrapping();
    parted();
    wrong();
    Due.end();
  }

  /** The third of three, so that k is 2; m is the last digit of km. */
  private static SoldDays third(int km) {
    SoldDays x = new SoldDays();
    x.person(0);
    x.person(0);
    x.person(km);
    return x;
  }

  private static void spoken(SoldDays x, int voice, int v, long want, int... bodies) {
    Due.due("29: voice(2, " + voice + ", " + v + ")", x.voice(2, voice, v), want);
    for (int i = 0; i < bodies.length; i++) {
      Due.due("30: body(" + i + ")", x.body(i), bodies[i]);
    }
    Due.due("30: behind the last", x.body(bodies.length), Due.NONE);
    Due.due("40: BODIES", x.count(10), bodies.length);
  }

  private static void persons() {
    SoldDays x = third(5);
    spoken(x, 0, 10, 12, 10);
    spoken(x, 1, 10, 24, 11, 10);
    spoken(x, 2, 10, 19, 12, 11, 10);
    spoken(x, 3, 10, 3, 13);
    spoken(x, 3, -10, -3, 13);
  }

  private static void students() {
    SoldDays x = third(15);
    spoken(x, 0, 10, 8, 20, 10);
    spoken(x, 1, 10, 16, 11, 20, 10);
    spoken(x, 2, 10, 11, 12, 11, 20, 10);
    spoken(x, 3, 10, 3 - 2, 21, 13, 11, 20, 10);
  }

  private static void widows() {
    SoldDays x = third(25);
    spoken(x, 0, 10, 12, 10);
    spoken(x, 1, 10, -24, 30, 11, 10);
    spoken(x, 2, 10, -29, 12, 30, 11, 10);
    spoken(x, 3, 10, 3, 13);
  }

  private static void heirs() {
    SoldDays x = third(35);
    spoken(x, 0, 10, 12, 10);
    spoken(x, 1, 10, 24, 11, 10);
    spoken(x, 2, 11, 9, 40, 12, 11, 10);
    spoken(x, 2, -11, -5 * 2 + 4 - 5, 40, 12, 11, 10);
  }

  private static void truants() {
    SoldDays x = third(45);
    spoken(x, 0, 10, 24, 50, 20, 10);
    spoken(x, 1, 10, 48, 11, 50, 20, 10);
    spoken(x, 2, 10, 43 ^ 2, 51, 12, 11, 50, 20, 10);
    spoken(x, 3, 10, 3 - 6, 21, 13, 11, 50, 20, 10);
  }

  private static void merry() {
    SoldDays x = third(55);
    spoken(x, 0, 10, 12, 10);
    spoken(x, 1, 10, -26, 60, 30, 11, 10);
    spoken(x, 2, 10, -31, 12, 60, 30, 11, 10);
  }

  private static void bailiffs() {
    SoldDays x = third(65);
    spoken(x, 0, 10, 9, 70);
    spoken(x, 1, 10, 23, 71, 11, 70);
    spoken(x, 2, 10, 18, 12, 71, 11, 70);
    spoken(x, 3, 10, 3, 13);
  }

  private static void wrapping() {
    SoldDays x = third(5);
    spoken(x, 0, Integer.MAX_VALUE, Integer.MIN_VALUE + 1, 10);
    spoken(x, 1, 1 << 30, Integer.MIN_VALUE + 4, 11, 10);
    SoldDays y = third(1);
    spoken(y, 3, Integer.MIN_VALUE, Integer.MIN_VALUE, 13);
    SoldDays z = third(0);
    Due.due("29: no ERROR", z.voice(2, 0, (int) Due.BEYOND - 2), Due.BEYOND);
    Due.due("29: not told", z.told(1), 0);
  }

  private static void parted() {
    SoldDays x = third(2);
    x.voice(2, 0, 1);
    spoken(x, 3, 10, Due.PARTED, 13);
    x.become(2, 42);
    spoken(x, 3, 10, Due.PARTED, 21, 13);
    spoken(x, 0, 10, 24, 50, 20, 10);
    Due.due("41: told(6)", x.told(6), 2);
  }

  private static void wrong() {
    SoldDays x = third(5);
    x.voice(2, 1, 10);
    Due.due("29: voice(3, 0, 0)", x.voice(3, 0, 0), Due.BEYOND);
    Due.due("29: voice(-1, 0, 0)", x.voice(-1, 0, 0), Due.BEYOND);
    Due.due("29: voice(2, 4, 0)", x.voice(2, 4, 0), Due.BEYOND);
    Due.due("29: voice(2, -1, 0)", x.voice(2, -1, 0), Due.BEYOND);
    Due.due("30: THE TRACE stays", x.body(0), 11);
    Due.due("30: body(-1)", x.body(-1), Due.NONE);
    Due.due("30: body(2)", x.body(2), Due.NONE);
    Due.due("30: body(30)", x.body(30), Due.NONE);
    Due.due("30: body(most)", x.body(Integer.MAX_VALUE), Due.NONE);
  }
}
