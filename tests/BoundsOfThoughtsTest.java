/**
 * Promises 21 to 28 at their bounds: for each sentence of the document that names one, a test of its
 * own, that quotes it. What is refused stands in RefusalsTest, too.
 */
final class BoundsOfThoughtsTest {
  public static void main(String[] args) {
    thenBehind0To100Days();
    thenOfSumsThatAreHeld();
    thenBeyond9999();
    onlyThought();
    aloneOf1To60Days();
    aloneOfNobodyAndOfNever();
    aloneBeyond9999();
    meetBehind0To27Days();
    meetOnNoDay();
    meetByKinds();
    keepersOfNobody();
    keepersFromOneToSix();
    keepersOfOneDayLess();
    keepersTheLeastSet();
    buysWithJustEnough();
    buysWhatOneHas();
    buysOfFewerThanNine();
    buysTheCheapestFirst();
    buysForNothing();
    buysWhateverTheSellerHas();
    bailiffsTake1To3();
    bailiffsHaveNotSoManyDays();
    bailiffsTakeEachOnce();
    bailiffsFewestThenLeastThenFirst();
    bailiffsPricesAsTheyAreNow();
    bailiffsOfAllPromises();
    bailiffsOfWhoIsUpWithoutTheDay();
    oddsFrom0To28();
    oddsOfKinds();
    fitsOfNoNumbers();
    fitsOfNobody();
    fitsOf24Numbers();
    fitsOverTheEndOfTheCalendar();
    fitsOfMostLives();
    fitsOfSix();
    Due.end();
  }

  /** "THEN, for n (0 .. 100)" */
  private static void thenBehind0To100Days() {
    SoldDays x = Made.people(0);
    Due.text(x, 1, "1");
    x.change(0, 0, 5);
    Due.due("21: then(-1)", x.then(-1, 0, 0), Due.BEYOND);
    Due.due("21: then(0)", x.then(0, 0, 0), 5);
    Due.due("21: then(0)", x.then(0, 0, 1), 100);
    Due.due("21: then(1)", x.then(1, 0, 0), 6);
    Due.due("21: then(1)", x.then(1, 0, 1), 99);
    Due.due("21: then(99)", x.then(99, 0, 1), 1);
    Due.due("21: then(100)", x.then(100, 0, 0), 105);
    Due.due("21: then(100)", x.then(100, 0, 1), 0);
    Due.due("21: then(101)", x.then(101, 0, 0), Due.BEYOND);
    x.days(27);
    x.give(0, 27, 9);
    x.give(0, 0, 0);
    Due.due("21: then(1) of DAY 27", x.then(1, 0, 0), 5 + 27 + 9);
    Due.due("21: then(2) of DAY 27, 0", x.then(2, 0, 0), 5 + 27 + 9);
    Due.due("21: then(2) of DAY 27, 0", x.then(2, 0, 1), 72);
  }

  /** "(held at 9999)", "(0 at least)" */
  private static void thenOfSumsThatAreHeld() {
    SoldDays x = Made.people(0);
    Due.text(x, 1, "50");
    x.change(0, 0, 9997);
    int[] ages = {9997, 9998, 9999, 9999};
    int[] moneys = {100, 50, 0, 0};
    for (int n = 0; n < 4; n++) {
      Due.due("21: AGE behind " + n, x.then(n, 0, 0), ages[n]);
      Due.due("21: MONEY behind " + n, x.then(n, 0, 1), moneys[n]);
    }
    Due.text(x, 1, "m/2+1");
    Due.due("21: DUES of MONEY as it is then", x.then(3, 0, 1), 11);
  }

  /** "TODAY beyond 9999, too" */
  private static void thenBeyond9999() {
    SoldDays x = Made.people(0);
    Made.on(x, 9999);
    x.change(0, 0, 0);
    x.give(0, 3, 4);
    Due.due("21: AGE behind 1", x.then(1, 0, 0), 4);
    Due.text(x, 1, "t>9999");
    Due.due("21: TODAY 9999", x.then(1, 0, 1), 100);
    Due.due("21: TODAY 10000", x.then(2, 0, 1), 99);
    Due.due("21: AGE behind 100", x.then(100, 0, 0), 112);
    Due.due("21: MONEY behind 100", x.then(100, 0, 1), 1);
    Due.due("40: TODAY", x.count(2), 9999);
  }

  /** "(All this is only thought ..)" */
  private static void onlyThought() {
    Twins.Maker usual = Made::usual;
    Twins.unchanged("21: then", usual, x -> x.then(100, 1, 1));
    Twins.unchanged("22: alone", usual, x -> x.alone(60));
    Twins.unchanged("23: meet", usual, x -> x.meet(0, 1));
    Twins.unchanged("24: keepers", usual, x -> x.keepers(1));
    Twins.unchanged("25: buys", usual, x -> x.buys(1, 2));
    Twins.unchanged("26: bailiffs", usual, x -> x.bailiffs(1, 3, 2));
    Twins.unchanged("27: odds", usual, x -> x.odds(1, 1));
    Twins.unchanged("28: fits", usual, x -> x.fits(2));
    Twins.unchanged("35: judge", usual, x -> x.judge(2));
  }

  /** "ALONE, of n (1 .. 60)." */
  private static void aloneOf1To60Days() {
    SoldDays x = Made.people(0);
    x.give(0, 0, 0);
    x.give(0, 3, 0);
    Due.due("22: alone(0)", x.alone(0), Due.BEYOND);
    int[][] rows = {{1, 1}, {3, 1}, {4, 2}, {28, 2}, {29, 3}, {31, 3}, {32, 4}, {56, 4}, {57, 5}, {59, 5}, {60, 6}};
    for (int[] row : rows) {
      Due.due("22: alone(" + row[0] + ")", x.alone(row[0]), row[1]);
    }
    Due.due("22: alone(61)", x.alone(61), Due.BEYOND);
    x.days(1);
    Due.due("22: from DAY 1, 2 days", x.alone(2), 0);
    Due.due("22: from DAY 1, 3 days", x.alone(3), 1);
    Due.due("22: from DAY 1, 27 days", x.alone(27), 1);
    Due.due("22: from DAY 1, 28 days", x.alone(28), 2);
  }

  /** "on how many of the next n days nobody is UP" */
  private static void aloneOfNobodyAndOfNever() {
    SoldDays x = new SoldDays();
    Due.due("22: of nobody", x.alone(1), 1);
    Due.due("22: of nobody", x.alone(60), 60);
    x.person(0);
    Due.due("22: of one", x.alone(60), 0);
    Made.has(x, 0, 0, 27, 0);
    Due.due("22: of one who HAS none", x.alone(60), 60);
    x.person(60);
    Due.due("22: of a BAILIFF", x.alone(60), 0);
    x.become(1, 10);
    Due.due("22: of a STUDENT", x.alone(60), 9);
  }

  private static void aloneBeyond9999() {
    SoldDays x = Made.people(0);
    x.give(0, 4, 0);
    Made.on(x, 9999);
    int was = x.count(6);
    Due.due("22: TODAY", x.alone(1), 0);
    Due.due("22: 10000, of DAY 4", x.alone(2), 1);
    Due.due("22: 60 days", x.alone(60), 3);
    Due.due("40: ALONE stays", x.count(6), was);
  }

  /** "behind how many days (0 .. 27; 0: TODAY's) both are UP first" */
  private static void meetBehind0To27Days() {
    for (int today = 0; today < 30; today++) {
      SoldDays x = Made.people(0, 60);
      if (today > 0) {
        x.days(today);
      }
      Made.has(x, 0, 0, 27, 0);
      x.give(0, 13, 1);
      int behind = (13 - today + 56) % 28;
      Due.due("23: on " + today, x.meet(0, 1), behind);
      Due.due("23: on " + today + ", the other way", x.meet(1, 0), behind);
    }
    SoldDays x = Made.people(0, 0);
    x.days(14);
    Made.has(x, 0, 0, 27, 0);
    Made.has(x, 1, 0, 27, 0);
    x.give(0, 13, 9);
    x.give(1, 13, 1);
    Due.due("23: behind 27", x.meet(0, 1), 27);
    x.give(0, 14, 1);
    Due.due("23: behind 27 still", x.meet(0, 1), 27);
    x.give(1, 14, 9);
    Due.due("23: TODAY", x.meet(0, 1), 0);
  }

  /** "NONE: on no DAY." */
  private static void meetOnNoDay() {
    SoldDays x = Made.people(0, 0);
    Made.has(x, 0, 0, 13, 0);
    Made.has(x, 1, 14, 27, 0);
    Due.due("23: on no DAY", x.meet(0, 1), Due.NONE);
    Due.due("23: on no DAY", x.meet(1, 0), Due.NONE);
    x.give(1, 27, 1);
    Due.due("23: on the last", x.meet(0, 1), 27);
    x.give(1, 27, 0);
    x.give(0, 0, 1);
    Due.due("23: on the first", x.meet(0, 1), 0);
  }

  private static void meetByKinds() {
    SoldDays x = Made.people(10, 41);
    Due.due("23: STUDENTS of 0 and 1", x.meet(0, 1), 2);
    x.become(1, 60);
    Made.has(x, 1, 0, 27, 0);
    Due.due("23: a BAILIFF HAS none", x.meet(0, 1), 1);
    x.become(1, 51);
    Due.due("23: one MERRY HAS none", x.meet(0, 1), 5);
    x.become(1, 50);
    Due.due("23: one MERRY of 0 HAS none", x.meet(0, 1), Due.NONE);
  }

  /** "NONE: not even all." */
  private static void keepersOfNobody() {
    SoldDays x = new SoldDays();
    Due.due("24: of nobody", x.keepers(0), Due.NONE);
    Due.due("24: of nobody", x.keepers(1), Due.NONE);
    x.person(0);
    Due.due("24: one", x.keepers(0), 1);
    Due.due("24: one", x.keepers(1), 1);
    x.give(0, 27, 0);
    Due.due("24: one of 27 DAYS", x.keepers(0), Due.NONE);
    x.become(0, 60);
    Due.due("24: a BAILIFF of 27 DAYS", x.keepers(1), 1);
  }

  /** "the fewest PEOPLE of whom somebody is UP on each of the 28 DAYS" */
  private static void keepersFromOneToSix() {
    for (int many = 1; many <= 6; many++) {
      SoldDays x = new SoldDays();
      for (int person = 0; person < 6; person++) {
        x.person(0);
        for (int day = 0; day < 28; day++) {
          x.give(person, day, day % many == person ? 1 : 0);
        }
      }
      Due.due("24: how many of " + many, x.keepers(0), many);
      Due.due("24: the set of " + many, x.keepers(1), (1 << many) - 1);
    }
  }

  /** Six of whom each is needed; without one DAY of one of them not even all do. */
  private static void keepersOfOneDayLess() {
    SoldDays x = new SoldDays();
    for (int person = 0; person < 6; person++) {
      x.person(0);
      Made.has(x, person, 0, 27, 0);
      Made.has(x, person, person * 5, Math.min(27, person * 5 + 4), 1);
    }
    Due.due("24: six", x.keepers(0), 6);
    Due.due("24: all of six", x.keepers(1), 63);
    x.give(5, 27, 0);
    Due.due("24: not even all", x.keepers(0), Due.NONE);
    x.give(0, 27, 1);
    Due.due("24: all of six", x.keepers(1), 63);
    Made.has(x, 1, 25, 26, 1);
    Due.due("24: without the last", x.keepers(0), 5);
    Due.due("24: without the last", x.keepers(1), 31);
  }

  /** "of several sets the least (bits)" */
  private static void keepersTheLeastSet() {
    SoldDays x = Made.people(10, 11, 12, 13, 0, 60);
    Due.due("24: one of two", x.keepers(1), 16);
    x.become(4, 14);
    Due.due("24: the last alone", x.keepers(1), 32);
    x.become(5, 10);
    Due.due("24: two of six", x.keepers(0), 2);
    Due.due("24: 0 and 1", x.keepers(1), 3);
    x.become(1, 10);
    Due.due("24: 0 and 2, ahead of 1 and 2", x.keepers(1), 5);
    x.become(0, 12);
    Due.due("24: 0 and 1, ahead of 1 and 2", x.keepers(1), 3);
  }

  /** "till MONEY doesn't do" */
  private static void buysWithJustEnough() {
    int[][] rows = {{0, 0}, {9, 0}, {10, 1}, {19, 1}, {20, 2}, {199, 19}, {200, 20}, {214, 20}, {215, 21}, {319, 27}, {320, 28}, {9999, 28}};
    for (int[] row : rows) {
      SoldDays x = Made.people(0, 0);
      x.change(1, 1, row[0]);
      Due.due("25: MONEY " + row[0], x.buys(0, 1), row[1]);
    }
  }

  /** "one of each DAY that that one HAS" */
  private static void buysWhatOneHas() {
    SoldDays x = Made.people(0, 0);
    x.change(1, 1, 9999);
    for (int day = 0; day < 28; day++) {
      Due.due("25: without " + day + " DAYS", x.buys(0, 1), 28 - day);
      x.give(0, day, 0);
    }
    Due.due("25: none", x.buys(0, 1), 0);
    x.give(0, 27, 9);
    Due.due("25: one of a DAY had 9 times", x.buys(0, 1), 1);
    Due.due("25: the other way", x.buys(1, 0), 10);
  }

  /** "and of which one HAS fewer than 9" */
  private static void buysOfFewerThanNine() {
    SoldDays x = Made.people(0, 0);
    x.change(1, 1, 9999);
    Made.has(x, 1, 0, 27, 9);
    Due.due("25: all 9 times", x.buys(0, 1), 0);
    x.give(1, 27, 8);
    Due.due("25: one 8 times", x.buys(0, 1), 1);
    x.give(1, 0, 0);
    Due.due("25: one 0 times", x.buys(0, 1), 2);
    Made.has(x, 0, 0, 27, 9);
    Due.due("25: what who sells HAS 9 times", x.buys(0, 1), 2);
  }

  /** "if always the cheapest that is left is bought (PRICES as they are now)" */
  private static void buysTheCheapestFirst() {
    SoldDays x = Made.people(0, 0);
    Due.text(x, 0, "30-d");
    int[] sums = {3, 7, 12, 18, 25};
    for (int i = 0; i < sums.length; i++) {
      x.change(1, 1, sums[i] - 1);
      Due.due("25: one less", x.buys(0, 1), i);
      x.change(1, 1, sums[i]);
      Due.due("25: just so", x.buys(0, 1), i + 1);
    }
    x.give(0, 27, 0);
    x.change(1, 1, 4);
    Due.due("25: the cheapest isn't there", x.buys(0, 1), 1);
    Due.text(x, 0, "h*10");
    Made.has(x, 0, 0, 27, 9);
    x.give(0, 20, 1);
    x.change(1, 1, 99);
    Due.due("25: 10, then 90", x.buys(0, 1), 1);
    x.change(1, 1, 100);
    Due.due("25: 10, then 90", x.buys(0, 1), 2);
  }

  private static void buysForNothing() {
    SoldDays x = Made.people(0, 0);
    Due.text(x, 0, "w*0");
    x.change(1, 1, 0);
    Due.due("25: all for nothing", x.buys(0, 1), 28);
    Due.text(x, 0, "(d>26)*999");
    Due.due("25: all but one", x.buys(0, 1), 27);
    x.change(1, 1, 999);
    Due.due("25: all", x.buys(0, 1), 28);
    Due.text(x, 0, "9999");
    x.change(1, 1, 9999);
    Due.due("25: ten for 999", x.buys(0, 1), 10);
    x.change(1, 1, 9989);
    Due.due("25: nine for 999", x.buys(0, 1), 9);
  }

  /** The sentence names MONEY of who buys alone. */
  private static void buysWhateverTheSellerHas() {
    SoldDays x = Made.people(0, 0);
    x.change(0, 1, 9999);
    Due.due("25: of one who has 9999", x.buys(0, 1), 10);
    Due.due("10: it can't be sold", x.sell(0, 1, 0), Due.STATE);
  }

  private static void taken(SoldDays x, int n, int prices, int unkept, int... days) {
    Due.due("26: PRICES of " + n, x.bailiffs(0, n, -2), prices);
    Due.due("26: not KEPT of " + n, x.bailiffs(0, n, -1), unkept);
    for (int i = 0; i < n; i++) {
      Due.due("26: DAY " + i + " of " + n, x.bailiffs(0, n, i), days[i]);
    }
    Due.due("26: no DAY " + n + " of " + n, x.bailiffs(0, n, n), Due.BEYOND);
    Due.due("26: below of " + n, x.bailiffs(0, n, -3), Due.BEYOND);
  }

  /** "BAILIFFS, for n (1 .. 3): what -2 .., -1 .., 0 .. n - 1" */
  private static void bailiffsTake1To3() {
    SoldDays x = Made.people(0);
    Due.due("26: n 0", x.bailiffs(0, 0, -1), Due.BEYOND);
    taken(x, 1, 10, 0, 0);
    taken(x, 2, 20, 0, 0, 1);
    taken(x, 3, 30, 0, 0, 1, 2);
    Due.due("26: n 4", x.bailiffs(0, 4, -1), Due.BEYOND);
  }

  /** "NONE: one HAS not so many DAYS." */
  private static void bailiffsHaveNotSoManyDays() {
    SoldDays x = Made.people(0);
    Made.has(x, 0, 0, 27, 0);
    for (int many = 0; many <= 3; many++) {
      for (int n = 1; n <= 3; n++) {
        Due.due("26: " + n + " of " + many, x.bailiffs(0, n, -1), n > many ? Due.NONE : 0);
      }
      x.give(0, 27 - many, 9);
    }
    x.become(0, 60);
    Made.has(x, 0, 0, 27, 0);
    Due.due("26: who is UP, but HAS none", x.bailiffs(0, 1, 0), Due.NONE);
  }

  /** "take n DAYS of somebody who HAS them, each once" */
  private static void bailiffsTakeEachOnce() {
    SoldDays x = Made.people(0, 0);
    x.promise(0, 1, 0);
    Made.has(x, 0, 0, 27, 0);
    x.give(0, 0, 2);
    x.give(0, 27, 9);
    taken(x, 1, 10, 0, 0);
    taken(x, 2, 25, 0, 0, 27);
    Due.due("26: not three", x.bailiffs(0, 3, -2), Due.NONE);
    x.give(0, 0, 1);
    taken(x, 1, 15, 0, 27);
    taken(x, 2, 25, 1, 0, 27);
  }

  /** "by which the fewest .. aren't KEPT then; of several .. the least PRICES ..; of these the first as a rising row" */
  private static void bailiffsFewestThenLeastThenFirst() {
    SoldDays x = Made.people(0, 0);
    Made.has(x, 0, 0, 27, 0);
    for (int day : new int[] {2, 4, 6, 8, 10}) {
      x.give(0, day, 1);
    }
    x.promise(0, 1, 2);
    x.promise(1, 0, 4);
    x.promise(0, 1, 4);
    Due.text(x, 0, "(d=2)*0+(d=4)*0+(d=6)*5+(d=8)*4+(d=10)*5");
    taken(x, 1, 4, 0, 8);
    taken(x, 2, 9, 0, 6, 8);
    taken(x, 3, 14, 0, 6, 8, 10);
    x.give(0, 6, 0);
    x.give(0, 10, 0);
    taken(x, 2, 4, 1, 2, 8);
    taken(x, 3, 4, 3, 2, 4, 8);
    x.untell(0);
    Made.has(x, 0, 20, 27, 1);
    taken(x, 1, 10, 0, 8);
    taken(x, 3, 30, 0, 8, 21, 22);
  }

  /** "(as they are now)": of a DAY had 9 times, as it is had now. */
  private static void bailiffsPricesAsTheyAreNow() {
    SoldDays x = Made.people(0);
    Due.text(x, 0, "h*100");
    Made.has(x, 0, 0, 27, 9);
    x.give(0, 27, 3);
    x.give(0, 26, 4);
    taken(x, 1, 300, 0, 27);
    taken(x, 2, 700, 0, 26, 27);
    taken(x, 3, 1600, 0, 0, 26, 27);
    Due.text(x, 0, "9999");
    taken(x, 3, 2997, 0, 0, 1, 2);
    Due.text(x, 0, "0-1");
    taken(x, 3, 0, 0, 0, 1, 2);
  }

  /** "the fewest of all PROMISES": those that aren't KEPT anyway, and of others, count, too. */
  private static void bailiffsOfAllPromises() {
    SoldDays x = Made.people(0, 0, 0);
    Made.has(x, 0, 3, 27, 0);
    x.give(2, 9, 0);
    x.promise(1, 2, 9);
    x.promise(2, 1, 9);
    x.promise(1, 2, 0);
    x.promise(0, 2, 9);
    x.promise(2, 0, 1);
    taken(x, 1, 10, 3, 0);
    taken(x, 2, 20, 3, 0, 2);
    taken(x, 3, 30, 4, 0, 1, 2);
    x.give(2, 1, 0);
    taken(x, 2, 20, 4, 0, 1);
  }

  /** Of one MERRY, a PROMISE for a weekday of 5 or 6 is KEPT without the DAY; for others it isn't. */
  private static void bailiffsOfWhoIsUpWithoutTheDay() {
    for (int day = 0; day < 28; day++) {
      SoldDays x = Made.people(53, 0);
      x.promise(0, 1, day);
      x.promise(1, 0, day);
      Made.has(x, 0, 0, 27, 0);
      x.give(0, day, 1);
      boolean isUpAnyway = day % 7 == 5 || day % 7 == 6;
      taken(x, 1, isUpAnyway ? 15 : 10, isUpAnyway ? 0 : 2, day);
      x.give(0, day, 2);
      taken(x, 1, isUpAnyway ? 15 : 10, 0, day);
    }
  }

  /** "on how many of the 28 DAYS one is UP, of 28: a fraction in lowest terms (0 is 0 by 1)" */
  private static void oddsFrom0To28() {
    SoldDays x = Made.people(0);
    Made.has(x, 0, 0, 27, 0);
    int[] above = {0, 1, 1, 3, 1, 5, 3, 1, 2, 9, 5, 11, 3, 13, 1, 15, 4, 17, 9, 19, 5, 3, 11, 23, 6, 25, 13, 27, 1};
    int[] below = {1, 28, 14, 28, 7, 28, 14, 4, 7, 28, 14, 28, 7, 28, 2, 28, 7, 28, 14, 28, 7, 4, 14, 28, 7, 28, 14, 28, 1};
    for (int up = 0; up <= 28; up++) {
      Due.due("27: above of " + up, x.odds(0, 0), above[up]);
      Due.due("27: below of " + up, x.odds(0, 1), below[up]);
      if (up < 28) {
        x.give(0, 27 - up, 9 - up % 9);
      }
    }
  }

  private static void oddsOfKinds() {
    int[][] rows = {{15, 1, 6, 7}, {15, 0, 0, 1}, {60, 0, 1, 1}, {53, 0, 2, 7}, {50, 0, 0, 1}, {46, 1, 6, 7}, {30, 1, 1, 1}};
    for (int[] row : rows) {
      SoldDays x = Made.people(row[0]);
      Made.has(x, 0, 0, 27, row[1]);
      Due.due("27: above of " + row[0], x.odds(0, 0), row[2]);
      Due.due("27: below of " + row[0], x.odds(0, 1), row[3]);
    }
  }

  /** "a SHEET tells what somebody LIVES ..: of whom that is so": one of no numbers is so of all. */
  private static void fitsOfNoNumbers() {
    SoldDays x = new SoldDays();
    x.sheet(0, 8, 0);
    int all = 0;
    for (int person = 0; person <= 6; person++) {
      Due.due("28: of " + person, x.fits(0), all);
      Due.due("35: none to judge", x.judge(0), 0);
      if (person < 6) {
        x.person(person);
        all += 1 << person;
      }
    }
  }

  private static void fitsOfNobody() {
    SoldDays x = new SoldDays();
    Due.due("28: missing", x.fits(3), Due.NONE);
    x.sheet(3, 32, 24);
    Due.due("28: nobody", x.fits(3), 0);
    x.person(0);
    Due.due("28: one who LIVES 1", x.fits(3), 0);
    Made.has(x, 0, 0, 27, 0);
    Due.due("28: one who LIVES 0", x.fits(3), 1);
  }

  /** "at most 24 numbers": the first one and the last one count. */
  private static void fitsOf24Numbers() {
    SoldDays x = Made.people(0, 0);
    x.sheet(3, 16, 24);
    for (int i = 0; i < 24; i++) {
      x.put(3, i, 1);
    }
    Due.due("28: both", x.fits(3), 3);
    x.give(0, 23, 2);
    Due.due("28: not of who LIVES 2 of the last", x.fits(3), 2);
    x.give(1, 0, 2);
    Due.due("28: not of who LIVES 2 of the first", x.fits(3), 0);
    x.give(0, 23, 1);
    x.give(0, 24, 9);
    Due.due("28: what is behind the last doesn't count", x.fits(3), 1);
    x.put(3, 0, 2);
    Due.due("28: the other one", x.fits(3), 2);
    x.sheet(3, 16, 1);
    x.put(3, 0, 1);
    Due.due("28: one number", x.fits(3), 1);
  }

  /** "of TODAY's DAY, of the next ones": behind DAY 27 is DAY 0; TODAY beyond 9999, too. */
  private static void fitsOverTheEndOfTheCalendar() {
    SoldDays x = Made.people(0, 0);
    x.give(0, 26, 7);
    x.give(0, 27, 3);
    x.give(0, 0, 5);
    x.days(27);
    x.sheet(1, 8, 2);
    x.put(1, 0, 3);
    x.put(1, 1, 5);
    Due.due("28: DAYS 27 and 0", x.fits(1), 1);
    x.days(1);
    x.put(1, 0, 5);
    x.put(1, 1, 1);
    Due.due("28: DAYS 0 and 1", x.fits(1), 1);
    SoldDays y = Made.people(0, 0);
    Made.on(y, 9999);
    y.give(1, 4, 6);
    y.sheet(0, 8, 2);
    y.put(0, 0, 1);
    y.put(0, 1, 6);
    Due.due("28: DAYS of 9999 and 10000", y.fits(0), 2);
  }

  /** The most that somebody LIVES is 19; numbers below 0 are of nobody. */
  private static void fitsOfMostLives() {
    SoldDays x = Made.people(59, 49);
    x.days(5);
    Made.has(x, 0, 5, 6, 9);
    Made.has(x, 1, 3, 5, 9);
    for (int bits = 8; bits <= 32; bits *= 2) {
      x.sheet(0, bits, 2);
      x.put(0, 0, 19);
      x.put(0, 1, 19);
      Due.due("28: one MERRY LIVES 19", x.fits(0), 1);
      x.put(0, 1, 20);
      Due.due("28: nobody LIVES 20", x.fits(0), 0);
      x.put(0, 0, -19);
      x.put(0, 1, -19);
      Due.due("28: nobody LIVES -19", x.fits(0), 0);
    }
    SoldDays y = Made.people(49);
    y.days(3);
    y.give(0, 3, 9);
    y.sheet(0, 8, 1);
    y.put(0, 0, 18);
    Due.due("28: a TRUANT LIVES 18", y.fits(0), 1);
  }

  /** ".. as a set": of six, any. */
  private static void fitsOfSix() {
    SoldDays x = Made.people(0, 0, 0, 0, 0, 0);
    x.sheet(0, 8, 1);
    x.put(0, 0, 2);
    for (int set = 0; set < 64; set++) {
      for (int person = 0; person < 6; person++) {
        if (set == 0 || ((set ^ set - 1) >> person & 1) == 1) {
          x.give(person, 0, 1 + (set >> person & 1));
        }
      }
      Due.due("28: set " + set, x.fits(0), set);
    }
  }
}
