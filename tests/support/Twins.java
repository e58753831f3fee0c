import java.util.ArrayList;
import java.util.List;

/**
 * "One that answers an ERROR changes nothing but what told() tells": of two objects made alike one
 * is asked what is refused, the other isn't; then all that can be seen of both is compared.
 * It is seen in parts, on a new pair for each, as an object is used for 512 calls at most.
 */
final class Twins {
  interface Maker {
    SoldDays make();
  }

  interface Act {
    int on(SoldDays x);
  }

  interface ActOf {
    int on(SoldDays x, int v);
  }

  private static final int PARTS = 4;

  private Twins() {}

  static void refused(String call, Maker maker, Act act, long error) {
    Due.due(call, act.on(maker.make()), error);
    compared(call, maker, act, Due.LOW - error - 1);
  }

  /** A call that is no ERROR and is only thought, or asks: nothing at all is other than it was. */
  static void unchanged(String call, Maker maker, Act act) {
    Due.due(call + " answers no ERROR", act.on(maker.make()) >= 0 ? 1 : 0, 1);
    compared(call, maker, act, -1);
  }

  /** Told is the place, in the first part, of what told() tells one more of. */
  private static void compared(String call, Maker maker, Act act, long told) {
    for (int part = 0; part < PARTS; part++) {
      SoldDays asked = maker.make();
      act.on(asked);
      List<Long> seen = seen(asked, part);
      List<Long> want = seen(maker.make(), part);
      for (int i = 0; i < want.size(); i++) {
        boolean isTold = part == 0 && i == told;
        Due.due(call + ": changes nothing (" + part + ", " + i + ")", seen.get(i), want.get(i) + (isTold ? 1 : 0));
      }
    }
  }

  /** A number of a call that is just outside of least to most, or far out. */
  static void beyond(String call, Maker maker, ActOf act, int least, int most) {
    for (int v : new int[] {least - 1, most + 1, Integer.MIN_VALUE, Integer.MAX_VALUE}) {
      refused(call + " with " + v, maker, x -> act.on(x, v), Due.BEYOND);
    }
  }

  private static List<Long> seen(SoldDays x, int part) {
    List<Long> row = new ArrayList<>();
    switch (part) {
      case 0:
        seeTold(x, row);
        seePeople(x, row);
        break;
      case 1:
        seeLaws(x, row);
        seeTrace(x, row);
        break;
      case 2:
        seeSheets(x, row);
        break;
      default:
        row.add((long) x.restore());
        row.add((long) x.image());
        seePeople(x, row);
        seeLaws(x, row);
        break;
    }
    return row;
  }

  private static void seeTold(SoldDays x, List<Long> row) {
    for (int k = 1; k <= 6; k++) {
      row.add((long) x.told(k));
    }
  }

  private static void seePeople(SoldDays x, List<Long> row) {
    for (int what = 0; what < 12; what++) {
      row.add((long) x.count(what));
    }
    for (int person = 0; person < 6; person++) {
      for (int what = 0; what < 5; what++) {
        row.add((long) x.personIs(person, what));
      }
      for (int day = 0; day < 28; day++) {
        row.add((long) x.has(person, day));
      }
    }
  }

  /** Ends with what empties THE TAPE and the row of numbers that wait. */
  private static void seeLaws(SoldDays x, List<Long> row) {
    for (int promise = 0; promise < 8; promise++) {
      for (int what = 0; what < 4; what++) {
        row.add((long) x.promiseIs(promise, what));
      }
    }
    for (int use = 0; use < 2; use++) {
      row.add((long) x.law(use, 3, 5, 7));
      row.add((long) x.law(use, 11, 0, 2));
    }
    row.add((long) x.check());
    row.add((long) x.text(0));
    row.add((long) x.law(0, 3, 5, 7));
  }

  private static void seeTrace(SoldDays x, List<Long> row) {
    for (int i = 0; i < 30; i++) {
      row.add((long) x.body(i));
    }
  }

  /** Which are of like bits; then six numbers at a time become MONEY, those behind come to the front. */
  private static void seeSheets(SoldDays x, List<Long> row) {
    for (int pair = 0; pair < 16; pair++) {
      row.add((long) x.move(pair / 4, 0, pair % 4, 0, 0));
    }
    for (int i = x.count(0); i < 6; i++) {
      x.person(0);
    }
    for (int sheet = 0; sheet < 4; sheet++) {
      row.add((long) x.judge(sheet));
      row.add((long) x.fits(sheet));
      for (int from = 6; from <= 24; from += 6) {
        row.add((long) x.funds(sheet));
        for (int person = 0; person < 6; person++) {
          row.add((long) x.personIs(person, 3));
        }
        row.add((long) x.move(sheet, from, sheet, 0, 24 - from));
      }
    }
  }
}
