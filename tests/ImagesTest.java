/** Promises 36 to 41: images, numbers that wait, counts, errors told. */
final class ImagesTest {
  public static void main(String[] args) {
    whatIsKept();
    whatIsNotKept();
    images();
    waiting();
    counts();
    told();
    Due.end();
  }

  private static void whatIsKept() {
    SoldDays x = new SoldDays();
    x.person(13);
    x.person(25);
    x.change(0, 0, 5);
    x.change(0, 1, 6);
    x.give(1, 27, 7);
    x.promise(0, 1, 4);
    Due.text(x, 0, "11");
    Due.text(x, 1, "12");
    x.days(2);
    x.feed('1', 1);
    x.tell(8);
    x.seed(77);
    long[] before = asIs(x);
    x.image();
    x.person(0);
    x.become(0, 60);
    x.become(1, 61);
    x.change(0, 0, 1);
    x.change(0, 1, 2);
    x.give(1, 27, 0);
    x.give(0, 3, 3);
    x.promise(1, 0, 5);
    x.untell(0);
    Due.text(x, 1, "13");
    x.tell(9);
    x.loose(30);
    Due.due("37: restore()", x.restore(), 2);
    long[] behind = asIs(x);
    for (int i = 0; i < before.length; i++) {
      Due.due("36: row " + i, behind[i], before[i]);
    }
    Due.due("36: THE TAPE", x.text(0), 1);
    Due.due("36: THE TAPE", x.law(0, 0, 0, 0), 1);
    Due.due("36: who waits", x.check(), 1);
    Due.due("37: it stays", x.restore(), 2);
    Due.due("37: it stays", x.law(0, 0, 0, 0), 11);
  }

  private static long[] asIs(SoldDays x) {
    return new long[] {
      x.count(0), x.count(1), x.count(2), x.count(3), x.count(4), x.count(5), x.count(6), x.count(7), x.count(8), x.count(9), x.count(11),
      x.personIs(0, 0), x.personIs(0, 1), x.personIs(0, 2), x.personIs(0, 3), x.personIs(1, 0), x.personIs(1, 1),
      x.has(1, 27), x.has(0, 3), x.promiseIs(0, 2), x.law(0, 0, 0, 0), x.law(1, 0, 0, 0),
    };
  }

  private static void whatIsNotKept() {
    SoldDays x = new SoldDays();
    x.person(5);
    x.sheet(0, 8, 2);
    x.put(0, 0, 1);
    x.put(0, 1, 1);
    x.voice(0, 0, 1);
    x.image();
    x.sheet(1, 8, 3);
    x.put(0, 1, 0);
    x.voice(0, 1, 1);
    x.person(-1);
    Due.due("37: restore()", x.restore(), 0);
    Due.due("36: SHEETS are not kept", x.judge(0), 1);
    Due.due("36: SHEETS are not kept", x.judge(1), 0);
    Due.due("36: THE TRACE is not kept", x.body(0), 11);
    Due.due("36: THE TRACE is not kept", x.count(10), 2);
    Due.due("36: what told() tells is not kept", x.told(1), 1);
    Due.due("36: how often this was done", x.image(), 2);
  }

  private static void images() {
    SoldDays x = new SoldDays();
    Due.due("37: there is none", x.restore(), Due.NONE);
    Due.due("36: once", x.image(), 1);
    x.days(5);
    Due.due("36: twice", x.image(), 2);
    x.days(5);
    Due.due("37: the latest", x.restore(), 5);
    Due.due("36: thrice", x.image(), 3);
    x.person(0);
    Due.due("37: nobody again", x.restore(), 5);
    Due.due("37: nobody again", x.count(0), 0);
    x.change(x.person(0), 0, 9);
    x.give(0, 0, 9);
    x.restore();
    x.person(0);
    Due.due("2: as at first", x.personIs(0, 2), 0);
    Due.due("2: as at first", x.has(0, 0), 1);
  }

  private static void waiting() {
    SoldDays x = new SoldDays();
    Due.due("39: none waits", x.check(), 0);
    for (int i = 1; i <= 24; i++) {
      Due.due("38: tell " + i, x.tell(0), i);
    }
    Due.due("38: full", x.tell(0), Due.FULL);
    Due.due("40: wait", x.count(9), 24);
    Due.due("39: for nobody", x.check(), 1);
    Due.due("40: none waits", x.count(9), 0);
    x.person(0);
    x.person(0);
    x.change(1, 0, 7);
    x.tell(0);
    x.tell(7);
    Due.due("39: so", x.check(), 0);
    Due.due("40: none waits", x.count(9), 0);
    x.tell(0);
    x.tell(8);
    Due.due("39: the second isn't so", x.check(), 2);
    Due.due("40: none waits", x.count(9), 0);
    x.tell(0);
    x.tell(7);
    x.tell(Integer.MIN_VALUE);
    Due.due("39: nobody for the third", x.check(), 3);
    x.tell(0);
    Due.due("39: fewer", x.check(), 0);
    x.tell(-1);
    x.tell(7);
    Due.due("39: the first isn't so", x.check(), 1);
  }

  private static void counts() {
    SoldDays x = new SoldDays();
    Due.due("40: count(-1)", x.count(-1), Due.BEYOND);
    Due.due("40: count(12)", x.count(12), Due.BEYOND);
    x.person(0);
    x.person(11);
    x.promise(0, 1, 0);
    x.promise(0, 1, 1);
    x.give(0, 2, 2);
    for (int day = 0; day < 2; day++) {
      x.give(0, 26 + day, 0);
      x.give(1, 26 + day, 0);
    }
    x.days(28);
    x.feed(0, 3);
    x.tell(1);
    x.tell(1);
    x.voice(1, 1, 1);
    int[] want = {2, 2, 28, 1, 1, 1, 2, 1, 3, 2, 3, 1};
    for (int what = 0; what < want.length; what++) {
      Due.due("40: count(" + what + ")", x.count(what), want[what]);
    }
  }

  private static void told() {
    SoldDays x = new SoldDays();
    Due.due("41: told(0)", x.told(0), Due.BEYOND);
    Due.due("41: told(7)", x.told(7), Due.BEYOND);
    Due.due("41: told(-1)", x.told(-1), Due.BEYOND);
    Due.due("41: they count, too", x.told(1), 3);
    x.person(0);
    x.body(0);
    x.sheet(0, 8, -1);
    x.sheet(0, 8, -1);
    for (int i = 0; i < 8; i++) {
      x.feed(0, 8);
    }
    x.as(0, 1);
    x.as(0, 2);
    x.as(0, 3);
    x.voice(0, 3, 1);
    int[] want = {3, 1, 2, 1, 3, 1};
    for (int k = 1; k <= 6; k++) {
      Due.due("41: told(" + k + ")", x.told(k), want[k - 1]);
    }
    x.seed((int) Due.STATE);
    Due.due("20: no ERROR", x.seed(1), Due.STATE);
    Due.due("41: told(3)", x.told(3), 2);
  }
}
