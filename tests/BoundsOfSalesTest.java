/**
 * Promises 9 to 13 at their bounds: for each sentence of the document that names one, a test of its
 * own, that quotes it. What is refused stands in RefusalsTest, too.
 */
final class BoundsOfSalesTest {
  public static void main(String[] args) {
    usualPriceByWeekday();
    priceHeldWithin0And999();
    priceOfADayThatOneHasNot();
    sellerHasIt();
    buyerHasItFewerThanNine();
    buyerHasMoneyForIt();
    sellerHas9999AtMost();
    dayForNothing();
    dearestDay();
    firstAndLastPersonAndDay();
    fourWeeks();
    weekWithOneDayMissing();
    weekWithOneDayNineTimes();
    weekThatMoneyJustDoesFor();
    weekUpTo9999();
    weekByPricesOfEachDay();
    atMostEightPromises();
    promisesOfAnyDayTwice();
    keptIfBothAreUp();
    keptByWhatTheyHaveNow();
    Due.end();
  }

  private static SoldDays two() {
    return Made.people(0, 0);
  }

  /** What a SALE of a DAY from 0 to 1 makes: HAS and MONEY of both. */
  private static void both(SoldDays x, int day, int has0, int has1, int money0, int money1) {
    Due.due("10: who sold HAS it", x.has(0, day), has0);
    Due.due("10: who bought HAS it", x.has(1, day), has1);
    Due.due("10: MONEY of who sold", x.personIs(0, 3), money0);
    Due.due("10: MONEY of who bought", x.personIs(1, 3), money1);
  }

  /** "without a TEXT 10, or 15, if w is above 4" */
  private static void usualPriceByWeekday() {
    SoldDays x = two();
    int[] byWeekday = {10, 10, 10, 10, 10, 15, 15};
    for (int day = 0; day < 28; day++) {
      Due.due("9: price(1, " + day + ")", x.price(1, day), byWeekday[day % 7]);
    }
  }

  /** "held within 0 .. 999" */
  private static void priceHeldWithin0And999() {
    held("998", 998);
    held("999", 999);
    held("1000", 999);
    held("9999", 999);
    held("9999*9999", 999);
    held("9999*9999*9999", 0); // wraps to below 0
    held("0", 0);
    held("0-1", 0);
    held("0-9999*9999", 0);
  }

  private static void held(String text, int want) {
    SoldDays x = two();
    Due.due("15: " + text, Due.text(x, 0, text), 1);
    Due.due("9: PRICE of " + text, x.price(0, 0), want);
    Due.due("17: law of " + text, x.law(0, 0, 0, 0), want);
  }

  /** "h how often the seller HAS it": a PRICE is of any DAY, of 0 times and of 9 times, too. */
  private static void priceOfADayThatOneHasNot() {
    SoldDays x = two();
    Due.text(x, 0, "h*100+d+w*30");
    x.give(0, 27, 0);
    Due.due("9: had 0 times", x.price(0, 27), 27 + 180);
    x.give(0, 27, 7);
    Due.due("9: had 7 times", x.price(0, 27), 700 + 27 + 180);
    x.give(0, 21, 9);
    Due.due("9: had 9 times", x.price(0, 21), 921);
    Due.due("9: h is the seller's", x.price(1, 21), 121);
  }

  /** "it can be, if the first one HAS it" */
  private static void sellerHasIt() {
    SoldDays x = two();
    Due.due("10: once", x.sell(0, 1, 1), 10);
    both(x, 1, 0, 2, 110, 90);
    Due.due("10: no more", x.sell(0, 1, 1), Due.STATE);
    both(x, 1, 0, 2, 110, 90);
    Due.due("10: back", x.sell(1, 0, 1), 10);
    Due.due("10: back again", x.sell(1, 0, 1), 10);
    both(x, 1, 2, 0, 90, 110);
    Due.due("10: none is left to give back", x.sell(1, 0, 1), Due.STATE);
  }

  /** "the other one HAS it fewer than 9 times" */
  private static void buyerHasItFewerThanNine() {
    SoldDays x = two();
    x.give(0, 1, 9);
    x.give(1, 1, 7);
    Due.due("10: the eighth", x.sell(0, 1, 1), 10);
    Due.due("10: the ninth", x.sell(0, 1, 1), 10);
    Due.due("10: no tenth", x.sell(0, 1, 1), Due.STATE);
    both(x, 1, 7, 9, 120, 80);
    Due.due("10: another DAY can be", x.sell(0, 1, 2), 10);
  }

  /** "has MONEY for its PRICE" */
  private static void buyerHasMoneyForIt() {
    SoldDays x = two();
    x.change(1, 1, 14);
    Due.due("10: one less than the PRICE", x.sell(0, 1, 5), Due.STATE);
    both(x, 5, 1, 1, 100, 14);
    x.change(1, 1, 15);
    Due.due("10: just the PRICE", x.sell(0, 1, 5), 15);
    both(x, 5, 0, 2, 115, 0);
    Due.due("10: no MONEY", x.sell(0, 1, 4), Due.STATE);
  }

  /** "and the first one has 9999 then at most" */
  private static void sellerHas9999AtMost() {
    SoldDays x = two();
    x.change(0, 1, 9985);
    Due.due("10: 10000 then", x.sell(0, 1, 5), Due.STATE);
    both(x, 5, 1, 1, 9985, 100);
    x.change(0, 1, 9984);
    Due.due("10: 9999 then", x.sell(0, 1, 5), 15);
    both(x, 5, 0, 2, 9999, 85);
    Due.due("10: 10009 then", x.sell(0, 1, 4), Due.STATE);
  }

  /** A PRICE of 0 does with no MONEY, and with 9999 of it. */
  private static void dayForNothing() {
    SoldDays x = two();
    Due.text(x, 0, "0");
    x.change(0, 1, 9999);
    x.change(1, 1, 0);
    Due.due("10: for nothing", x.sell(0, 1, 3), 0);
    both(x, 3, 0, 2, 9999, 0);
    Due.due("11: a week for nothing", x.sellWeek(0, 1, 1), 0);
    both(x, 13, 0, 2, 9999, 0);
  }

  private static void dearestDay() {
    SoldDays x = two();
    Due.text(x, 0, "9999");
    x.change(1, 1, 998);
    Due.due("10: 998 for 999", x.sell(0, 1, 3), Due.STATE);
    x.change(1, 1, 999);
    Due.due("10: 999 for 999", x.sell(0, 1, 3), 999);
    both(x, 3, 0, 2, 1099, 0);
    x.change(1, 1, 6992);
    Due.due("11: a week of 999 for 6992", x.sellWeek(0, 1, 1), Due.STATE);
    x.change(1, 1, 6993);
    Due.due("11: a week of 999 for 6993", x.sellWeek(0, 1, 1), 6993);
    both(x, 7, 0, 2, 1099 + 6993, 0);
  }

  private static void firstAndLastPersonAndDay() {
    SoldDays x = new SoldDays();
    for (int i = 0; i < 6; i++) {
      x.person(0);
    }
    Due.due("10: DAY 0 from the first to the last", x.sell(0, 5, 0), 10);
    Due.due("10: DAY 27 from the last to the first", x.sell(5, 0, 27), 15);
    Due.due("7: has(5, 0)", x.has(5, 0), 2);
    Due.due("7: has(5, 27)", x.has(5, 27), 0);
    Due.due("7: has(0, 0)", x.has(0, 0), 0);
    Due.due("7: has(0, 27)", x.has(0, 27), 2);
    Due.due("7: has(4, 27)", x.has(4, 27), 1);
    Due.due("7: has(1, 0)", x.has(1, 0), 1);
  }

  /** "four weeks 0 .. 3 of DAYS 0 .. 6, 7 .. 13 and so on" */
  private static void fourWeeks() {
    for (int week = 0; week < 4; week++) {
      SoldDays x = two();
      Due.due("11: week " + week, x.sellWeek(0, 1, week), 80);
      for (int day = 0; day < 28; day++) {
        boolean isSold = day >= week * 7 && day <= week * 7 + 6;
        Due.due("7: has(0, " + day + ")", x.has(0, day), isSold ? 0 : 1);
        Due.due("7: has(1, " + day + ")", x.has(1, day), isSold ? 2 : 1);
      }
    }
    SoldDays x = two();
    Due.due("11: week 4", x.sellWeek(0, 1, 4), Due.BEYOND);
    Due.due("11: week -1", x.sellWeek(0, 1, -1), Due.BEYOND);
  }

  /** "STATE: one of them can't be then (none is done)": any of the seven that who sells HASn't. */
  private static void weekWithOneDayMissing() {
    for (int day = 14; day < 21; day++) {
      SoldDays x = two();
      x.give(0, day, 0);
      noWeek(x, 2, "DAY " + day + " is missing", 100, 100);
    }
  }

  /** The same, of any of the seven that who buys HAS 9 times. */
  private static void weekWithOneDayNineTimes() {
    for (int day = 14; day < 21; day++) {
      SoldDays x = two();
      x.give(1, day, 9);
      noWeek(x, 2, "DAY " + day + " is there 9 times", 100, 100);
    }
  }

  /** Neither HAS nor MONEY of both is other than it was. */
  private static void noWeek(SoldDays x, int week, String why, int money0, int money1) {
    int[] was = new int[28];
    for (int i = 0; i < 28; i++) {
      was[i] = x.has(0, i) * 10 + x.has(1, i);
    }
    Due.due("11: " + why, x.sellWeek(0, 1, week), Due.STATE);
    for (int i = 0; i < 28; i++) {
      Due.due("11: none is done, DAY " + i, x.has(0, i) * 10 + x.has(1, i), was[i]);
    }
    Due.due("11: none is done, MONEY", x.personIs(0, 3), money0);
    Due.due("11: none is done, MONEY", x.personIs(1, 3), money1);
  }

  /** The same, of MONEY: it does for six of seven, and for none. */
  private static void weekThatMoneyJustDoesFor() {
    for (int money : new int[] {0, 9, 10, 64, 65, 79}) {
      SoldDays x = two();
      x.change(1, 1, money);
      noWeek(x, 3, "MONEY " + money, 100, money);
    }
    SoldDays x = two();
    x.change(1, 1, 80);
    Due.due("11: MONEY 80", x.sellWeek(0, 1, 3), 80);
    both(x, 27, 0, 2, 180, 0);
  }

  /** The same, of who sells: 9999 at most behind each of the seven. */
  private static void weekUpTo9999() {
    for (int money : new int[] {9920, 9934, 9935, 9989, 9990, 9999}) {
      SoldDays x = two();
      x.change(0, 1, money);
      noWeek(x, 0, "MONEY " + money, money, 100);
    }
    SoldDays x = two();
    x.change(0, 1, 9919);
    Due.due("11: 9999 then", x.sellWeek(0, 1, 0), 80);
    both(x, 6, 0, 2, 9999, 20);
  }

  /** "PRICES together": of each DAY by itself, as it is had. */
  private static void weekByPricesOfEachDay() {
    SoldDays x = two();
    Due.text(x, 0, "d+h*h");
    x.give(0, 8, 3);
    x.change(1, 1, 84);
    noWeek(x, 1, "84 for 85", 100, 84);
    x.change(1, 1, 85);
    Due.due("11: 70, 7 and 8", x.sellWeek(0, 1, 1), 7 + 8 + 9 + 10 + 11 + 12 + 13 + 6 + 9);
    both(x, 8, 2, 2, 185, 0);
  }

  /** "PROMISES 0, 1, .. (at most 8)" */
  private static void atMostEightPromises() {
    SoldDays x = two();
    Due.due("13: of none", x.promiseIs(0, 0), Due.BEYOND);
    for (int i = 0; i < 8; i++) {
      Due.due("12: number " + i, x.promise(i % 2, 1 - i % 2, 27 - i), i);
      Due.due("13: the next one isn't there", x.promiseIs(i + 1, 0), Due.BEYOND);
    }
    Due.due("12: a ninth", x.promise(0, 1, 0), Due.FULL);
    Due.due("40: eight", x.count(1), 8);
    for (int i = 0; i < 8; i++) {
      Due.due("13: who", x.promiseIs(i, 0), i % 2);
      Due.due("13: to whom", x.promiseIs(i, 1), 1 - i % 2);
      Due.due("13: the DAY", x.promiseIs(i, 2), 27 - i);
    }
  }

  /** The first and the last DAY, one that is gone, and the same PROMISE once more. */
  private static void promisesOfAnyDayTwice() {
    SoldDays x = two();
    x.days(3);
    Due.due("12: DAY 0 is gone", x.promise(0, 1, 0), 0);
    Due.due("12: DAY 27", x.promise(0, 1, 27), 1);
    Due.due("12: once more", x.promise(0, 1, 27), 2);
    Due.due("12: the other way", x.promise(1, 0, 27), 3);
    x.days(24);
    Due.due("40: not yet", x.count(4), 0);
    x.days(1);
    Due.due("40: three of DAY 27", x.count(4), 3);
    x.days(1);
    Due.due("40: that of DAY 0", x.count(4), 4);
  }

  /** "one is KEPT, if both are UP on that DAY" */
  private static void keptIfBothAreUp() {
    for (int up = 0; up < 4; up++) {
      SoldDays x = two();
      x.promise(0, 1, 27);
      x.give(0, 27, up % 2);
      x.give(1, 27, up / 2);
      Due.due("13: KEPT of " + up, x.promiseIs(0, 3), up == 3 ? 1 : 0);
      Due.due("40: not KEPT of " + up, x.count(7), up == 3 ? 0 : 1);
      x.days(28);
      Due.due("40: KEPT of " + up, x.count(4), up == 3 ? 1 : 0);
      Due.due("40: BROKEN of " + up, x.count(5), up == 3 ? 0 : 1);
    }
  }

  /** "3 whether it is KEPT by what they HAVE now": by KIND and m, too. */
  private static void keptByWhatTheyHaveNow() {
    SoldDays x = two();
    x.promise(0, 1, 12);
    Due.due("13: at first", x.promiseIs(0, 3), 1);
    x.give(0, 12, 0);
    Due.due("13: one HASn't the DAY", x.promiseIs(0, 3), 0);
    x.become(0, 51);
    Due.due("13: one is MERRY", x.promiseIs(0, 3), 1);
    x.become(0, 50);
    Due.due("13: with 0 more", x.promiseIs(0, 3), 0);
    x.become(0, 60);
    Due.due("13: one is a BAILIFF", x.promiseIs(0, 3), 1);
    x.become(1, 15);
    Due.due("13: the other one is a STUDENT of weekday 5", x.promiseIs(0, 3), 0);
    x.become(1, 16);
    Due.due("13: of weekday 6", x.promiseIs(0, 3), 1);
    x.give(1, 12, 0);
    Due.due("13: the other one HASn't the DAY", x.promiseIs(0, 3), 0);
  }
}
