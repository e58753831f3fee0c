/** Promises 9 to 13: prices, sales, whole weeks, promises. */
final class SalesTest {
  public static void main(String[] args) {
    prices();
    sales();
    boundsOfSales();
    weeks();
    boundsOfWeeks();
    promises();
    Due.end();
  }

  private static void prices() {
    SoldDays x = new SoldDays();
    x.person(0);
    for (int day = 0; day < 28; day++) {
      Due.due("9: price(0, " + day + ")", x.price(0, day), day % 7 > 4 ? 15 : 10);
    }
    Due.due("9: price(0, 28)", x.price(0, 28), Due.BEYOND);
    Due.due("9: price(0, -1)", x.price(0, -1), Due.BEYOND);
    Due.due("9: price(1, 0)", x.price(1, 0), Due.BEYOND);
    Due.due("9: price(-1, 0)", x.price(-1, 0), Due.BEYOND);
    Due.due("15: d*100+w*10+h", Due.text(x, 0, "d*30+w*10+h"), 1);
    x.give(0, 9, 7);
    Due.due("9: price(0, 9)", x.price(0, 9), 9 * 30 + 2 * 10 + 7);
    Due.due("9: held at 0", Due.text(x, 0, "0-d"), 1);
    Due.due("9: price(0, 9) below 0", x.price(0, 9), 0);
    Due.due("9: held at 999", Due.text(x, 0, "1000"), 1);
    Due.due("9: price(0, 9) above 999", x.price(0, 9), 999);
  }

  private static void sales() {
    SoldDays x = new SoldDays();
    x.person(0);
    x.person(0);
    Due.due("10: sell(0, 0, 3)", x.sell(0, 0, 3), Due.BEYOND);
    Due.due("10: sell(0, 2, 3)", x.sell(0, 2, 3), Due.BEYOND);
    Due.due("10: sell(2, 0, 3)", x.sell(2, 0, 3), Due.BEYOND);
    Due.due("10: sell(0, 1, 28)", x.sell(0, 1, 28), Due.BEYOND);
    Due.due("10: sell(0, 1, -1)", x.sell(0, 1, -1), Due.BEYOND);
    Due.due("10: sell(0, 1, 5)", x.sell(0, 1, 5), 15);
    Due.due("10: has(0, 5)", x.has(0, 5), 0);
    Due.due("10: has(1, 5)", x.has(1, 5), 2);
    Due.due("10: MONEY of who sold", x.personIs(0, 3), 115);
    Due.due("10: MONEY of who bought", x.personIs(1, 3), 85);
    Due.due("10: sell(0, 1, 5) again", x.sell(0, 1, 5), Due.STATE);
    Due.due("10: sell(1, 0, 5) back", x.sell(1, 0, 5), 15);
    Due.due("10: has(0, 5) back", x.has(0, 5), 1);
  }

  private static void boundsOfSales() {
    SoldDays x = new SoldDays();
    x.person(0);
    x.person(0);
    x.give(1, 0, 9);
    Due.due("10: 9 times already", x.sell(0, 1, 0), Due.STATE);
    x.give(1, 0, 8);
    x.change(1, 1, 9);
    Due.due("10: MONEY doesn't do", x.sell(0, 1, 0), Due.STATE);
    x.change(1, 1, 10);
    x.change(0, 1, 9990);
    Due.due("10: too much MONEY", x.sell(0, 1, 0), Due.STATE);
    x.change(0, 1, 9989);
    Due.due("10: just so", x.sell(0, 1, 0), 10);
    Due.due("10: has(1, 0)", x.has(1, 0), 9);
    Due.due("10: MONEY 9999", x.personIs(0, 3), 9999);
    Due.due("10: MONEY 0", x.personIs(1, 3), 0);
    Due.text(x, 0, "0");
    Due.due("10: for nothing", x.sell(0, 1, 1), 0);
  }

  private static void weeks() {
    SoldDays x = new SoldDays();
    x.person(0);
    x.person(0);
    Due.due("11: sellWeek(0, 0, 0)", x.sellWeek(0, 0, 0), Due.BEYOND);
    Due.due("11: sellWeek(0, 1, 4)", x.sellWeek(0, 1, 4), Due.BEYOND);
    Due.due("11: sellWeek(0, 1, -1)", x.sellWeek(0, 1, -1), Due.BEYOND);
    Due.due("11: sellWeek(0, 2, 0)", x.sellWeek(0, 2, 0), Due.BEYOND);
    Due.due("11: sellWeek(0, 1, 3)", x.sellWeek(0, 1, 3), 80);
    for (int day = 0; day < 28; day++) {
      Due.due("11: has(0, " + day + ")", x.has(0, day), day < 21 ? 1 : 0);
      Due.due("11: has(1, " + day + ")", x.has(1, day), day < 21 ? 1 : 2);
    }
    Due.due("11: MONEY of who sold", x.personIs(0, 3), 180);
    Due.due("11: MONEY of who bought", x.personIs(1, 3), 20);
  }

  private static void boundsOfWeeks() {
    SoldDays x = new SoldDays();
    x.person(0);
    x.person(0);
    x.change(1, 1, 79);
    Due.due("11: MONEY doesn't do for the last", x.sellWeek(0, 1, 1), Due.STATE);
    x.change(1, 1, 80);
    x.change(0, 1, 9920);
    Due.due("11: too much MONEY by the last", x.sellWeek(0, 1, 1), Due.STATE);
    x.change(0, 1, 9919);
    x.give(0, 13, 0);
    Due.due("11: the last isn't there", x.sellWeek(0, 1, 1), Due.STATE);
    x.give(0, 13, 1);
    x.give(1, 7, 9);
    Due.due("11: one 9 times already", x.sellWeek(0, 1, 1), Due.STATE);
    Due.due("11: none is done: MONEY", x.personIs(1, 3), 80);
    Due.due("11: none is done: HAS", x.has(0, 10), 1);
    x.give(1, 7, 8);
    Due.due("11: just so", x.sellWeek(0, 1, 1), 80);
    Due.due("11: MONEY 9999", x.personIs(0, 3), 9999);
    Due.due("11: MONEY 0", x.personIs(1, 3), 0);
  }

  private static void promises() {
    SoldDays x = new SoldDays();
    x.person(0);
    x.person(11);
    Due.due("12: promise(0, 0, 1)", x.promise(0, 0, 1), Due.BEYOND);
    Due.due("12: promise(0, 2, 1)", x.promise(0, 2, 1), Due.BEYOND);
    Due.due("12: promise(0, 1, 28)", x.promise(0, 1, 28), Due.BEYOND);
    Due.due("12: promise(0, 1, -1)", x.promise(0, 1, -1), Due.BEYOND);
    for (int i = 0; i < 8; i++) {
      Due.due("12: promise " + i, x.promise(i % 2, 1 - i % 2, i), i);
    }
    Due.due("12: full", x.promise(0, 1, 1), Due.FULL);
    Due.due("12: full, one and the same", x.promise(1, 1, 1), Due.BEYOND);
    Due.due("13: who", x.promiseIs(3, 0), 1);
    Due.due("13: to whom", x.promiseIs(3, 1), 0);
    Due.due("13: the DAY", x.promiseIs(3, 2), 3);
    Due.due("13: KEPT", x.promiseIs(3, 3), 1);
    Due.due("13: who is a student", x.promiseIs(1, 3), 0);
    x.give(0, 3, 0);
    Due.due("13: to whom isn't UP", x.promiseIs(3, 3), 0);
    x.give(1, 4, 0);
    Due.due("13: whom isn't UP", x.promiseIs(4, 3), 0);
    Due.due("40: aren't KEPT", x.count(7), 3);
    Due.due("13: promiseIs(8, 0)", x.promiseIs(8, 0), Due.BEYOND);
    Due.due("13: promiseIs(-1, 0)", x.promiseIs(-1, 0), Due.BEYOND);
    Due.due("13: promiseIs(0, 4)", x.promiseIs(0, 4), Due.BEYOND);
    Due.due("13: promiseIs(0, -1)", x.promiseIs(0, -1), Due.BEYOND);
    Due.due("40: PROMISES", x.count(1), 8);
  }
}
