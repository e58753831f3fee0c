/**
 * Every call that is refused: the ERROR that is asked first is the answer, told() tells one more of
 * it, and nothing else changes. Arguments are tried one outside of their bounds, and far out.
 */
final class RefusalsTest {
  private static final int LEAST = Integer.MIN_VALUE;
  private static final int MOST = Integer.MAX_VALUE;
  private static final int LAST_PERSON = 2;

  public static void main(String[] args) {
    people();
    kinds();
    changes();
    sales();
    sameTwice();
    salesThatCannotBe();
    promises();
    texts();
    days();
    thoughts();
    thoughtsOfOne();
    voices();
    sheets();
    missingSheets();
    moves();
    images();
    full();
    tooLate();
    Due.end();
  }

  private static void beyond(String call, Twins.ActOf act, int least, int most) {
    Twins.beyond(call, Made::usual, act, least, most);
  }

  private static void refused(String call, Twins.Act act, long error) {
    Twins.refused(call, Made::usual, act, error);
  }

  private static void people() {
    beyond("2: person(v)", (x, v) -> x.person(v), 0, 69);
    beyond("3: personIs(v, 0)", (x, v) -> x.personIs(v, 0), 0, LAST_PERSON);
    beyond("3: personIs(0, v)", (x, v) -> x.personIs(0, v), 0, 4);
    Twins.refused("3: personIs(0, 0) of nobody", SoldDays::new, x -> x.personIs(0, 0), Due.BEYOND);
  }

  private static void kinds() {
    beyond("4: become(v, 44)", (x, v) -> x.become(v, 44), 0, LAST_PERSON);
    beyond("4: become(0, v)", (x, v) -> x.become(0, v), 0, 69);
    beyond("5: as(v, 0)", (x, v) -> x.as(v, 0), 0, LAST_PERSON);
    beyond("5: as(0, v)", (x, v) -> x.as(0, v), 0, 6);
    refused("5: a PERSON as STUDENT", x -> x.as(0, 1), Due.KIND);
    refused("5: a STUDENT as TRUANT", x -> x.as(1, 4), Due.KIND);
    refused("5: a STUDENT as WIDOW", x -> x.as(1, 2), Due.KIND);
    refused("5: a WIDOW as MERRY", x -> x.as(2, 5), Due.KIND);
    refused("5: a PERSON as BAILIFF", x -> x.as(0, 6), Due.KIND);
  }

  private static void changes() {
    beyond("6: change(v, 0, 1)", (x, v) -> x.change(v, 0, 1), 0, LAST_PERSON);
    beyond("6: change(0, v, 1)", (x, v) -> x.change(0, v, 1), 0, 1);
    beyond("6: change(0, 0, v)", (x, v) -> x.change(0, 0, v), 0, 9999);
    beyond("6: change(0, 1, v)", (x, v) -> x.change(0, 1, v), 0, 9999);
    beyond("7: has(v, 0)", (x, v) -> x.has(v, 0), 0, LAST_PERSON);
    beyond("7: has(0, v)", (x, v) -> x.has(0, v), 0, 27);
    beyond("8: give(v, 0, 5)", (x, v) -> x.give(v, 0, 5), 0, LAST_PERSON);
    beyond("8: give(0, v, 5)", (x, v) -> x.give(0, v, 5), 0, 27);
    beyond("8: give(0, 0, v)", (x, v) -> x.give(0, 0, v), 0, 9);
  }

  private static void sales() {
    beyond("9: price(v, 0)", (x, v) -> x.price(v, 0), 0, LAST_PERSON);
    beyond("9: price(0, v)", (x, v) -> x.price(0, v), 0, 27);
    beyond("10: sell(v, 0, 1)", (x, v) -> x.sell(v, 0, 1), 0, LAST_PERSON);
    beyond("10: sell(0, v, 1)", (x, v) -> x.sell(0, v, 1), 0, LAST_PERSON);
    beyond("10: sell(0, 1, v)", (x, v) -> x.sell(0, 1, v), 0, 27);
    beyond("11: sellWeek(v, 0, 1)", (x, v) -> x.sellWeek(v, 0, 1), 0, LAST_PERSON);
    beyond("11: sellWeek(0, v, 1)", (x, v) -> x.sellWeek(0, v, 1), 0, LAST_PERSON);
    beyond("11: sellWeek(0, 1, v)", (x, v) -> x.sellWeek(0, 1, v), 0, 3);
    beyond("12: promise(v, 0, 1)", (x, v) -> x.promise(v, 0, 1), 0, LAST_PERSON);
    beyond("12: promise(0, v, 1)", (x, v) -> x.promise(0, v, 1), 0, LAST_PERSON);
    beyond("12: promise(0, 1, v)", (x, v) -> x.promise(0, 1, v), 0, 27);
  }

  /** "BEYOND: also one and the same": of the first one, and of the last one. */
  private static void sameTwice() {
    for (int person = 0; person <= LAST_PERSON; person++) {
      int p = person;
      refused("10: sell(" + p + ", " + p + ", 1)", x -> x.sell(p, p, 1), Due.BEYOND);
      refused("11: sellWeek(" + p + ", " + p + ", 1)", x -> x.sellWeek(p, p, 1), Due.BEYOND);
      refused("12: promise(" + p + ", " + p + ", 1)", x -> x.promise(p, p, 1), Due.BEYOND);
      refused("23: meet(" + p + ", " + p + ")", x -> x.meet(p, p), Due.BEYOND);
      refused("25: buys(" + p + ", " + p + ")", x -> x.buys(p, p), Due.BEYOND);
    }
    refused("10: one and the same, whom the DAY is missing", x -> x.sell(0, 0, 5), Due.BEYOND);
  }

  /** PRICE is d + h here, and somebody else has 777. */
  private static void salesThatCannotBe() {
    refused("10: who sells HASn't the DAY", x -> x.sell(0, 1, 5), Due.STATE);
    refused("11: one DAY of the week is missing", x -> x.sellWeek(0, 1, 0), Due.STATE);
    Twins.Maker poor = () -> with(x -> x.change(1, 1, 10));
    Twins.refused("10: MONEY doesn't do", poor, x -> x.sell(0, 1, 10), Due.STATE);
    Twins.refused("11: MONEY does for the first alone", poor, x -> x.sellWeek(0, 1, 1), Due.STATE);
    Twins.Maker rich = () -> with(x -> x.change(0, 1, 9985));
    Twins.refused("10: above 9999", rich, x -> x.sell(0, 1, 14), Due.STATE);
    Twins.refused("11: above 9999 by the second", rich, x -> x.sellWeek(0, 1, 1), Due.STATE);
    Twins.Maker sated = () -> with(x -> x.give(1, 20, 9));
    Twins.refused("10: 9 times already", sated, x -> x.sell(0, 1, 20), Due.STATE);
    Twins.refused("11: the last 9 times already", sated, x -> x.sellWeek(0, 1, 2), Due.STATE);
    Twins.refused("10: BEYOND is asked ahead of STATE", sated, x -> x.sell(0, 3, 20), Due.BEYOND);
    Twins.refused("11: BEYOND is asked ahead of STATE", sated, x -> x.sellWeek(1, 1, 2), Due.BEYOND);
  }

  private static SoldDays with(Twins.Act act) {
    SoldDays x = Made.usual();
    act.on(x);
    return x;
  }

  private static void promises() {
    beyond("13: promiseIs(v, 0)", (x, v) -> x.promiseIs(v, 0), 0, 1);
    beyond("13: promiseIs(0, v)", (x, v) -> x.promiseIs(0, v), 0, 3);
    Twins.refused("13: promiseIs(0, 0) of none", SoldDays::new, x -> x.promiseIs(0, 0), Due.BEYOND);
  }

  private static void texts() {
    beyond("14: feed(49, v)", (x, v) -> x.feed(49L, v), 1, 8);
    beyond("15: text(v)", (x, v) -> x.text(v), 0, 1);
    beyond("16: untell(v)", (x, v) -> x.untell(v), 0, 1);
    beyond("17: law(v, 1, 2, 3)", (x, v) -> x.law(v, 1, 2, 3), 0, 1);
  }

  private static void days() {
    beyond("18: days(v)", (x, v) -> x.days(v), 1, 60);
    beyond("19: loose(v)", (x, v) -> x.loose(v), 1, 40);
  }

  private static void thoughts() {
    beyond("21: then(v, 0, 0)", (x, v) -> x.then(v, 0, 0), 0, 100);
    beyond("21: then(1, v, 0)", (x, v) -> x.then(1, v, 0), 0, LAST_PERSON);
    beyond("21: then(1, 0, v)", (x, v) -> x.then(1, 0, v), 0, 1);
    beyond("22: alone(v)", (x, v) -> x.alone(v), 1, 60);
    beyond("23: meet(v, 0)", (x, v) -> x.meet(v, 0), 0, LAST_PERSON);
    beyond("23: meet(0, v)", (x, v) -> x.meet(0, v), 0, LAST_PERSON);
    beyond("24: keepers(v)", (x, v) -> x.keepers(v), 0, 1);
    beyond("25: buys(v, 0)", (x, v) -> x.buys(v, 0), 0, LAST_PERSON);
    beyond("25: buys(0, v)", (x, v) -> x.buys(0, v), 0, LAST_PERSON);
    beyond("27: odds(v, 0)", (x, v) -> x.odds(v, 0), 0, LAST_PERSON);
    beyond("27: odds(0, v)", (x, v) -> x.odds(0, v), 0, 1);
    Twins.refused("24: not even all of nobody", SoldDays::new, x -> x.keepers(0), Due.NONE);
    Twins.refused("24: BEYOND is asked ahead of NONE", SoldDays::new, x -> x.keepers(2), Due.BEYOND);
    Twins.Maker never = RefusalsTest::neverUp;
    Twins.refused("23: on no DAY", never, x -> x.meet(0, 1), Due.NONE);
    Twins.refused("23: on no DAY, the other way", never, x -> x.meet(1, 0), Due.NONE);
    Twins.refused("23: BEYOND is asked ahead of NONE", never, x -> x.meet(1, 1), Due.BEYOND);
    Twins.refused("24: not even all", never, x -> x.keepers(1), Due.NONE);
  }

  /** Two people: the first one HAS no DAY but 27, the other one none of all. */
  private static SoldDays neverUp() {
    SoldDays x = new SoldDays();
    x.person(0);
    x.person(0);
    for (int day = 0; day < 28; day++) {
      x.give(0, day, day == 27 ? 9 : 0);
      x.give(1, day, 0);
    }
    return x;
  }

  private static void thoughtsOfOne() {
    beyond("26: bailiffs(v, 1, 0)", (x, v) -> x.bailiffs(v, 1, 0), 0, LAST_PERSON);
    beyond("26: bailiffs(0, v, 0)", (x, v) -> x.bailiffs(0, v, 0), 1, 3);
    beyond("26: bailiffs(0, 1, v)", (x, v) -> x.bailiffs(0, 1, v), -2, 0);
    beyond("26: bailiffs(0, 2, v)", (x, v) -> x.bailiffs(0, 2, v), -2, 1);
    beyond("26: bailiffs(0, 3, v)", (x, v) -> x.bailiffs(0, 3, v), -2, 2);
    Twins.Maker never = RefusalsTest::neverUp;
    Twins.refused("26: one DAY of two, 9 times", never, x -> x.bailiffs(0, 2, 0), Due.NONE);
    Twins.refused("26: no DAY of one", never, x -> x.bailiffs(1, 1, -1), Due.NONE);
    Twins.refused("26: BEYOND is asked ahead of NONE", never, x -> x.bailiffs(1, 1, 1), Due.BEYOND);
  }

  /** THE TRACE ahead is 13, as that of the BODIES that part: so it is alike in any case. */
  private static void voices() {
    beyond("29: voice(v, 0, 1)", (x, v) -> x.voice(v, 0, 1), 0, LAST_PERSON);
    beyond("29: voice(0, v, 1)", (x, v) -> x.voice(0, v, 1), 0, 3);
    beyond("29: a part that would be PARTED, of nobody", (x, v) -> x.voice(v, 3, 1), 0, LAST_PERSON);
    Twins.Maker parting = () -> {
      SoldDays x = new SoldDays();
      x.person(1);
      x.voice(0, 3, 5);
      x.become(0, 0);
      return x;
    };
    Twins.refused("29: PARTED", parting, x -> x.voice(0, 3, 5), Due.PARTED);
    refused("30: body(-1)", x -> x.body(-1), Due.NONE);
    refused("30: body(3)", x -> x.body(3), Due.NONE);
    refused("30: body(least)", x -> x.body(LEAST), Due.NONE);
    refused("30: body(most)", x -> x.body(MOST), Due.NONE);
    Twins.refused("30: body(0) of none", SoldDays::new, x -> x.body(0), Due.NONE);
  }

  private static void sheets() {
    beyond("31: sheet(v, 8, 1)", (x, v) -> x.sheet(v, 8, 1), 0, 3);
    beyond("31: sheet(v, 8, -1)", (x, v) -> x.sheet(v, 8, -1), 0, 3);
    beyond("31: sheet(v, 0, 0)", (x, v) -> x.sheet(v, 0, 0), 0, 3);
    for (int bits : new int[] {-8, -1, 1, 7, 9, 15, 17, 24, 31, 33, 64, LEAST, MOST}) {
      refused("31: sheet(0, " + bits + ", 1)", x -> x.sheet(0, bits, 1), Due.BEYOND);
      refused("31: sheet(3, " + bits + ", -1)", x -> x.sheet(3, bits, -1), Due.BEYOND);
    }
    for (int bits : new int[] {8, 16, 32}) {
      refused("31: sheet(2, " + bits + ", -1)", x -> x.sheet(2, bits, -1), Due.STATE);
      refused("31: sheet(3, " + bits + ", least)", x -> x.sheet(3, bits, LEAST), Due.STATE);
      refused("31: sheet(2, " + bits + ", 25)", x -> x.sheet(2, bits, 25), Due.BEYOND);
      refused("31: sheet(3, " + bits + ", most)", x -> x.sheet(3, bits, MOST), Due.BEYOND);
    }
    beyond("32: put(v, 0, 1)", (x, v) -> x.put(v, 0, 1), 0, 3);
    beyond("32: put(0, v, 1)", (x, v) -> x.put(0, v, 1), 0, 5);
    beyond("32: put(2, v, 1)", (x, v) -> x.put(2, v, 1), 0, 23);
    beyond("28: fits(v)", (x, v) -> x.fits(v), 0, 3);
    beyond("34: funds(v)", (x, v) -> x.funds(v), 0, 3);
    beyond("35: judge(v)", (x, v) -> x.judge(v), 0, 3);
  }

  private static void missingSheets() {
    refused("28: fits(3)", x -> x.fits(3), Due.NONE);
    refused("32: put(3, 0, 1)", x -> x.put(3, 0, 1), Due.NONE);
    refused("32: NONE is asked ahead of no such number", x -> x.put(3, 24, 1), Due.NONE);
    refused("32: no such SHEET is asked first", x -> x.put(4, 24, 1), Due.BEYOND);
    refused("34: funds(3)", x -> x.funds(3), Due.NONE);
    refused("35: judge(3)", x -> x.judge(3), Due.NONE);
    Twins.Maker empty = () -> with(x -> x.sheet(0, 32, 0));
    Twins.refused("32: there is no number 0 of none", empty, x -> x.put(0, 0, 1), Due.BEYOND);
    Twins.refused("33: there is no number 0 of none", empty, x -> x.move(0, 0, 0, 0, 1), Due.BEYOND);
    Twins.Maker gone = () -> with(x -> x.sheet(0, 0, 6));
    Twins.refused("32: one that is missing again", gone, x -> x.put(0, 0, 1), Due.NONE);
  }

  /** SHEETS 0 and 2 have 6 and 24 numbers of 16 bits, 1 has 4 of 8, 3 is missing. */
  private static void moves() {
    beyond("33: move(v, 0, 0, 0, 1)", (x, v) -> x.move(v, 0, 0, 0, 1), 0, 3);
    beyond("33: move(0, 0, v, 0, 1)", (x, v) -> x.move(0, 0, v, 0, 1), 0, 3);
    beyond("33: move(0, v, 2, 0, 1)", (x, v) -> x.move(0, v, 2, 0, 1), 0, 5);
    beyond("33: move(2, 0, 0, v, 1)", (x, v) -> x.move(2, 0, 0, v, 1), 0, 5);
    beyond("33: move(0, v, 2, 0, 6)", (x, v) -> x.move(0, v, 2, 0, 6), 0, 0);
    beyond("33: move(2, 0, 0, v, 6)", (x, v) -> x.move(2, 0, 0, v, 6), 0, 0);
    beyond("33: move(0, 0, 2, 0, v)", (x, v) -> x.move(0, 0, 2, 0, v), 0, 6);
    beyond("33: move(2, 0, 0, 0, v)", (x, v) -> x.move(2, 0, 0, 0, v), 0, 6);
    beyond("33: move(0, 6, 2, 24, v)", (x, v) -> x.move(0, 6, 2, 24, v), 0, 0);
    refused("33: BEYOND ahead of NONE", x -> x.move(3, 0, 4, 0, 0), Due.BEYOND);
    refused("33: BEYOND ahead of NONE", x -> x.move(-1, 0, 3, 0, 0), Due.BEYOND);
    refused("33: the one is missing", x -> x.move(3, 0, 0, 0, 0), Due.NONE);
    refused("33: the other one is missing", x -> x.move(0, 0, 3, 0, 0), Due.NONE);
    refused("33: both are missing", x -> x.move(3, 0, 3, 0, 0), Due.NONE);
    refused("33: NONE ahead of all of n, i, j", x -> x.move(3, -1, 0, -1, -1), Due.NONE);
    refused("33: unlike bits", x -> x.move(0, 0, 1, 0, 0), Due.KIND);
    refused("33: KIND ahead of all of n, i, j", x -> x.move(1, MOST, 2, LEAST, -1), Due.KIND);
    Twins.Maker wide = () -> with(x -> x.sheet(3, 32, 6));
    Twins.refused("33: 16 and 32 bits", wide, x -> x.move(0, 0, 3, 0, 1), Due.KIND);
    Twins.refused("33: 32 and 8 bits", wide, x -> x.move(3, 0, 1, 0, 1), Due.KIND);
  }

  private static void images() {
    Twins.refused("37: there is no IMAGE", SoldDays::new, x -> x.restore(), Due.NONE);
    beyond("40: count(v)", (x, v) -> x.count(v), 0, 11);
    beyond("41: told(v)", (x, v) -> x.told(v), 1, 6);
  }

  private static void full() {
    Twins.refused("2: a seventh", Made::full, x -> x.person(0), Due.FULL);
    Twins.refused("12: a ninth PROMISE", Made::full, x -> x.promise(0, 1, 0), Due.FULL);
    Twins.refused("14: a byte more", Made::full, x -> x.feed(49L, 1), Due.FULL);
    Twins.refused("14: eight bytes more", Made::full, x -> x.feed(-1L, 8), Due.FULL);
    Twins.refused("38: one number more", Made::full, x -> x.tell(0), Due.FULL);
    Twins.beyond("2: BEYOND ahead of FULL", Made::full, (x, v) -> x.person(v), 0, 69);
    Twins.beyond("12: BEYOND ahead of FULL", Made::full, (x, v) -> x.promise(v, 0, 0), 0, 5);
    Twins.beyond("12: BEYOND ahead of FULL", Made::full, (x, v) -> x.promise(0, v, 0), 0, 5);
    Twins.beyond("12: BEYOND ahead of FULL", Made::full, (x, v) -> x.promise(0, 1, v), 0, 27);
    Twins.refused("12: BEYOND ahead of FULL", Made::full, x -> x.promise(5, 5, 0), Due.BEYOND);
    Twins.beyond("14: BEYOND ahead of FULL", Made::full, (x, v) -> x.feed(49L, v), 1, 8);
    Twins.Maker almost = () -> {
      SoldDays x = new SoldDays();
      for (int i = 0; i < 53; i++) {
        x.feed(49L, 1);
      }
      return x;
    };
    Twins.refused("14: eight bytes where seven would do", almost, x -> x.feed(49L, 8), Due.FULL);
  }

  private static void tooLate() {
    Twins.Maker atLast = () -> Made.late(9999);
    Twins.refused("18: no day more", atLast, x -> x.days(1), Due.STATE);
    Twins.refused("19: no day more", atLast, x -> x.loose(1), Due.STATE);
    Twins.refused("18: BEYOND ahead of STATE", atLast, x -> x.days(61), Due.BEYOND);
    Twins.refused("18: BEYOND ahead of STATE", atLast, x -> x.days(0), Due.BEYOND);
    Twins.refused("19: BEYOND ahead of STATE", atLast, x -> x.loose(41), Due.BEYOND);
    Twins.refused("19: BEYOND ahead of STATE", atLast, x -> x.loose(0), Due.BEYOND);
    Twins.refused("18: one day too many", () -> Made.late(9940), x -> x.days(60), Due.STATE);
    Twins.refused("19: one day too many", () -> Made.late(9960), x -> x.loose(40), Due.STATE);
  }
}
