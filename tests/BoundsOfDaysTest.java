/**
 * Promises 18 to 20, and a DAY that goes, at their bounds: for each sentence of the document that
 * names one, a test of its own, that quotes it. What is refused stands in RefusalsTest, too.
 */
final class BoundsOfDaysTest {
  private static final int LEAST = Integer.MIN_VALUE;
  private static final int MOST = Integer.MAX_VALUE;

  public static void main(String[] args) {
    oneToSixtyDays();
    oneToFortyDaysByDraws();
    todayIs9999AtMost();
    todayIs9999AtMostByDraws();
    nobodyIsUp();
    ageIsHeldAt9999();
    moneyIs0AtLeast();
    duesAreHeldAt99();
    duesAsAheadOfTheDay();
    whoHasItMoreThanOnceMeets();
    whoIsNotUpMeetsNobody();
    meetingsAreHeldAt9999();
    promisesOfTheDayAlone();
    eightPromisesADay();
    aloneIfNobodyIsUp();
    calendarBeginsAgain();
    noDrawsBelowTwoPeople();
    threeDrawsOfTwo();
    drawsOfAnIntThatWraps();
    saleAheadOfTheDay();
    salesThatCannotBe();
    salesOfFortyDays();
    anySeed();
    Due.end();
  }

  private static int drawn(int z, int draws) {
    for (int i = 0; i < draws; i++) {
      z = z * 1103515245 + 12345;
    }
    return z;
  }

  /** "n (1 .. 60) days" */
  private static void oneToSixtyDays() {
    SoldDays x = Made.people(0);
    Due.due("18: days(0)", x.days(0), Due.BEYOND);
    Due.due("18: days(1)", x.days(1), 1);
    Due.due("40: TODAY", x.count(2), 1);
    Due.due("18: days(60)", x.days(60), 60);
    Due.due("40: TODAY", x.count(2), 61);
    Due.due("18: days(61)", x.days(61), Due.BEYOND);
    Due.due("40: TODAY", x.count(2), 61);
    Due.due("3: AGE", x.personIs(0, 2), 61);
  }

  /** "n (1 .. 40) days BY DRAWS" */
  private static void oneToFortyDaysByDraws() {
    SoldDays x = Made.people(0);
    Due.due("19: loose(0)", x.loose(0), Due.BEYOND);
    Due.due("19: loose(1)", x.loose(1), 0);
    Due.due("40: TODAY", x.count(2), 1);
    Due.due("19: loose(40)", x.loose(40), 0);
    Due.due("40: TODAY", x.count(2), 41);
    Due.due("19: loose(41)", x.loose(41), Due.BEYOND);
    Due.due("40: TODAY", x.count(2), 41);
    Due.due("3: AGE", x.personIs(0, 2), 41);
  }

  private static SoldDays on(int today) {
    SoldDays x = Made.people(60);
    Made.on(x, today);
    return x;
  }

  /** "STATE: TODAY would be above 9999." */
  private static void todayIs9999AtMost() {
    SoldDays x = on(9939);
    Due.due("18: to 9999", x.days(60), 60);
    Due.due("40: TODAY", x.count(2), 9999);
    Due.due("18: one more", x.days(1), Due.STATE);
    Due.due("18: sixty more", x.days(60), Due.STATE);
    SoldDays y = on(9940);
    Due.due("18: to 10000", y.days(60), Due.STATE);
    Due.due("40: TODAY", y.count(2), 9940);
    Due.due("18: to 9999", y.days(59), 59);
    Due.due("40: TODAY", y.count(2), 9999);
  }

  /** The same, of loose(). */
  private static void todayIs9999AtMostByDraws() {
    SoldDays x = on(9959);
    x.person(0);
    x.seed(3);
    Due.due("19: to 9999", x.loose(40) >= 0 ? 1 : 0, 1);
    Due.due("40: TODAY", x.count(2), 9999);
    Due.due("40: z", x.count(11), drawn(3, 120));
    Due.due("19: one more", x.loose(1), Due.STATE);
    Due.due("40: z stays", x.count(11), drawn(3, 120));
    SoldDays y = on(9960);
    y.person(0);
    Due.due("19: to 10000", y.loose(40), Due.STATE);
    Due.due("40: TODAY", y.count(2), 9960);
    Due.due("40: z stays", y.count(11), 1);
    Due.due("19: to 9999", y.loose(39) >= 0 ? 1 : 0, 1);
    Due.due("40: TODAY", y.count(2), 9999);
  }

  /** Days go without PEOPLE, and with PEOPLE who aren't UP. */
  private static void nobodyIsUp() {
    SoldDays x = new SoldDays();
    Due.due("18: of nobody", x.days(60), 0);
    Due.due("40: TODAY", x.count(2), 60);
    Due.due("40: ALONE", x.count(6), 60);
    Due.due("19: of nobody", x.loose(40), 0);
    Due.due("40: ALONE", x.count(6), 100);
    SoldDays y = Made.people(0, 10);
    y.give(0, 0, 0);
    Due.due("18: neither is UP", y.days(1), 0);
    Due.due("40: ALONE", y.count(6), 1);
    Due.due("3: AGE", y.personIs(0, 2), 0);
    Due.due("3: AGE", y.personIs(1, 2), 0);
  }

  /** "AGE is more by what one LIVES (held at 9999)" */
  private static void ageIsHeldAt9999() {
    int[][] rows = {{9990, 9, 9999}, {9991, 9, 9999}, {9989, 9, 9998}, {9998, 1, 9999}, {9999, 1, 9999}, {9999, 9, 9999}, {0, 9, 9}};
    for (int[] row : rows) {
      SoldDays x = Made.people(0);
      x.change(0, 0, row[0]);
      x.give(0, 0, row[1]);
      Due.due("21: then", x.then(1, 0, 0), row[2]);
      Due.due("18: days(1)", x.days(1), 1);
      Due.due("3: AGE of " + row[0] + " and " + row[1], x.personIs(0, 2), row[2]);
    }
    SoldDays x = Made.people(59);
    x.days(5);
    x.give(0, 5, 9);
    x.change(0, 0, 9981);
    x.days(1);
    Due.due("3: AGE of one MERRY", x.personIs(0, 2), 9999);
  }

  /** "MONEY less by DUES (0 at least)" */
  private static void moneyIs0AtLeast() {
    int[][] rows = {{0, 0}, {1, 0}, {49, 0}, {50, 0}, {51, 1}, {9999, 9949}};
    for (int[] row : rows) {
      SoldDays x = Made.people(0);
      Due.text(x, 1, "50");
      x.change(0, 1, row[0]);
      Due.due("21: then", x.then(1, 0, 1), row[1]);
      x.days(1);
      Due.due("3: MONEY of " + row[0], x.personIs(0, 3), row[1]);
    }
  }

  /** "1 DUES: .. held within 0 .. 99" */
  private static void duesAreHeldAt99() {
    String[] texts = {"98", "99", "100", "9999", "0", "0-1", "0-9999"};
    int[] dues = {98, 99, 99, 99, 0, 0, 0};
    for (int i = 0; i < texts.length; i++) {
      SoldDays x = Made.people(0);
      Due.text(x, 1, texts[i]);
      x.days(1);
      Due.due("3: MONEY less " + texts[i], x.personIs(0, 3), 100 - dues[i]);
    }
  }

  /** "DUES are as ahead of it": AGE, TODAY and MONEY are not yet those behind the DAY. */
  private static void duesAsAheadOfTheDay() {
    String[] texts = {"a", "t", "m"};
    int[] dues = {7, 3, 95};
    for (int i = 0; i < 3; i++) {
      SoldDays x = Made.people(0);
      x.days(3);
      x.change(0, 0, 7);
      x.change(0, 1, 95);
      x.give(0, 3, 9);
      Due.text(x, 1, texts[i]);
      x.days(1);
      Due.due("3: MONEY less " + texts[i], x.personIs(0, 3), 95 - dues[i]);
      Due.due("3: AGE", x.personIs(0, 2), 16);
    }
    SoldDays x = Made.people(0, 0);
    x.give(1, 0, 0);
    Due.text(x, 1, "1");
    x.days(1);
    Due.due("18: all who are UP", x.personIs(0, 3), 99);
    Due.due("18: not who isn't", x.personIs(1, 3), 100);
  }

  /** "who HAS the DAY more than once MEETS himself (1 more of MEETINGS)" */
  private static void whoHasItMoreThanOnceMeets() {
    for (int often = 0; often <= 9; often++) {
      SoldDays x = Made.people(60);
      x.give(0, 0, often);
      x.days(1);
      Due.due("40: MEETINGS, had " + often, x.count(3), often > 1 ? 1 : 0);
    }
    SoldDays x = Made.people(59);
    x.days(5);
    x.days(1);
    Due.due("40: who LIVES 10 of a DAY had once", x.count(3), 0);
    SoldDays y = Made.people(30);
    y.give(0, 0, 2);
    y.days(1);
    Due.due("40: who LIVES 1 of a DAY had twice", y.count(3), 1);
    SoldDays z = Made.people(0, 20, 60);
    for (int person = 0; person < 3; person++) {
      z.give(person, 0, 2);
    }
    z.days(1);
    Due.due("40: three of three", z.count(3), 3);
  }

  /** "all who are UP": a student who isn't UP MEETS nobody, as often as he HAS the DAY. */
  private static void whoIsNotUpMeetsNobody() {
    SoldDays x = Made.people(10, 47);
    x.give(0, 0, 9);
    x.give(1, 0, 9);
    Due.due("18: neither is UP", x.days(1), 0);
    Due.due("40: MEETINGS", x.count(3), 0);
  }

  /** "(MEETINGS, KEPT, BROKEN, ALONE: 0 at first, held at 9999.)" */
  private static void meetingsAreHeldAt9999() {
    SoldDays x = Made.people(60, 60, 60, 60, 60, 60);
    for (int person = 0; person < 6; person++) {
      Made.has(x, person, 0, 27, 2);
    }
    Made.on(x, 1666);
    Due.due("40: MEETINGS", x.count(3), 9996);
    for (int person = 0; person < 4; person++) {
      x.give(person, 1666 % 28, 1);
    }
    x.days(1);
    Due.due("40: MEETINGS", x.count(3), 9998);
    x.days(1);
    Due.due("40: held", x.count(3), 9999);
    x.days(60);
    Due.due("40: held still", x.count(3), 9999);
    Made.on(x, 9999);
    Due.due("40: held on", x.count(3), 9999);
    SoldDays y = new SoldDays();
    Made.on(y, 9999);
    Due.due("40: ALONE at most", y.count(6), 9999);
  }

  /** "Then each PROMISE for that DAY is one more of those KEPT, or of those BROKEN." */
  private static void promisesOfTheDayAlone() {
    SoldDays x = Made.people(60, 60, 0);
    x.promise(0, 1, 0);
    x.promise(0, 1, 27);
    x.promise(1, 2, 27);
    x.give(2, 27, 0);
    settled(x, 0, 0);
    x.days(1);
    settled(x, 1, 0);
    x.days(26);
    settled(x, 1, 0);
    x.days(1);
    settled(x, 2, 1);
    x.days(1);
    settled(x, 3, 1);
    x.days(27);
    settled(x, 4, 2);
  }

  private static void settled(SoldDays x, int kept, int broken) {
    Due.due("40: KEPT on " + x.count(2), x.count(4), kept);
    Due.due("40: BROKEN on " + x.count(2), x.count(5), broken);
  }

  /** Eight for one DAY; they are those of the next four weeks, too. */
  private static void eightPromisesADay() {
    SoldDays x = Made.people(60, 0);
    x.give(1, 5, 0);
    for (int i = 0; i < 8; i++) {
      x.promise(i % 2, 1 - i % 2, i < 3 ? 5 : 4);
    }
    x.days(28);
    settled(x, 5, 3);
    x.days(28);
    settled(x, 10, 6);
    Due.due("40: PROMISES stay", x.count(1), 8);
  }

  /** "If nobody was UP, the cat was ALONE once more." */
  private static void aloneIfNobodyIsUp() {
    SoldDays x = Made.people(0, 11);
    for (int day = 0; day < 28; day++) {
      x.give(0, day, day % 7 == 1 ? 0 : 1);
    }
    x.days(28);
    Due.due("40: ALONE on weekday 1", x.count(6), 4);
    x.give(0, 1, 1);
    x.days(28);
    Due.due("40: ALONE on three of them", x.count(6), 7);
  }

  /** "the DAY that goes is its rest by 28" */
  private static void calendarBeginsAgain() {
    SoldDays x = Made.people(0);
    x.give(0, 0, 5);
    x.give(0, 27, 0);
    x.days(27);
    Due.due("3: AGE behind 27", x.personIs(0, 2), 31);
    Due.due("18: DAY 27", x.days(1), 0);
    Due.due("18: DAY 0", x.days(1), 1);
    Due.due("3: AGE behind 29", x.personIs(0, 2), 36);
  }

  /** "if there are two PEOPLE or more, three draws" */
  private static void noDrawsBelowTwoPeople() {
    SoldDays x = new SoldDays();
    x.loose(2);
    Due.due("40: z, of nobody", x.count(11), 1);
    x.person(0);
    x.loose(2);
    Due.due("40: z, of one", x.count(11), 1);
    Due.due("40: TODAY", x.count(2), 4);
    x.person(0);
    x.loose(2);
    Due.due("40: z, of two", x.count(11), drawn(1, 6));
  }

  /** ".., three draws": in any case, if no SALE comes of them, too. */
  private static void threeDrawsOfTwo() {
    for (int seed = 0; seed < 20; seed++) {
      SoldDays x = Made.people(0, 0);
      x.change(0, 1, 0);
      x.change(1, 1, 0);
      x.seed(seed);
      Due.due("19: nobody has MONEY", x.loose(1), 0);
      Due.due("40: z", x.count(11), drawn(seed, 3));
    }
  }

  /** "each makes it z * 1103515245 + 12345 (an int), and gives z >>> 8": of any z it is not below 0. */
  private static void drawsOfAnIntThatWraps() {
    int[] seeds = {LEAST, MOST, -1, 0, 1, LEAST + 1, MOST - 1, 1 << 30, -12345, 0x00ffffff, 0xff000000};
    for (int seed : seeds) {
      for (int many = 2; many <= 6; many++) {
        oneDraw(seed, many);
      }
    }
  }

  private static void oneDraw(int seed, int many) {
    SoldDays x = Made.people(new int[many]);
    x.seed(seed);
    int from = (drawn(seed, 1) >>> 8) % many;
    int to = (drawn(seed, 2) >>> 8) % many;
    int day = (drawn(seed, 3) >>> 8) % 28;
    String call = "19: seed " + seed + " of " + many;
    Due.due(call, x.loose(1), from == to ? 0 : 1);
    for (int person = 0; person < many; person++) {
      int more = from == to ? 0 : person == from ? -1 : person == to ? 1 : 0;
      Due.due(call + ": who HAS it", x.has(person, day), 1 + more);
    }
    Due.due(call + ": z", x.count(11), drawn(seed, 3));
  }

  /** "..; then the DAY goes": who sold TODAY's DAY isn't UP, who bought it LIVES it twice. */
  private static void saleAheadOfTheDay() {
    int found = 0;
    for (int seed = 0; seed < 400; seed++) {
      int from = (drawn(seed, 1) >>> 8) % 2;
      int to = (drawn(seed, 2) >>> 8) % 2;
      int day = (drawn(seed, 3) >>> 8) % 28;
      if (from != to && day == 0) {
        SoldDays x = Made.people(0, 0);
        x.seed(seed);
        Due.due("19: a SALE of TODAY's DAY", x.loose(1), 1);
        Due.due("3: AGE of who sold it", x.personIs(from, 2), 0);
        Due.due("3: AGE of who bought it", x.personIs(to, 2), 2);
        Due.due("40: he MEETS himself", x.count(3), 1);
        found++;
      }
    }
    Due.due("there are such seeds", found > 0 ? 1 : 0, 1);
  }

  /** "if these are two, and it can be": as a SALE that is asked for; told() tells nothing of it. */
  private static void salesThatCannotBe() {
    int seed = 4;
    int from = (drawn(seed, 1) >>> 8) % 2;
    int to = (drawn(seed, 2) >>> 8) % 2;
    int day = (drawn(seed, 3) >>> 8) % 28;
    Due.due("of two", from == to ? 0 : 1, 1);
    int price = day % 7 > 4 ? 15 : 10;
    drawnSale(seed, 1, x -> x.give(from, day, 1));
    drawnSale(seed, 0, x -> x.give(from, day, 0));
    drawnSale(seed, 1, x -> x.give(to, day, 8));
    drawnSale(seed, 0, x -> x.give(to, day, 9));
    drawnSale(seed, 1, x -> x.change(to, 1, price));
    drawnSale(seed, 0, x -> x.change(to, 1, price - 1));
    drawnSale(seed, 1, x -> x.change(from, 1, 9999 - price));
    drawnSale(seed, 0, x -> x.change(from, 1, 10000 - price));
  }

  private static void drawnSale(int seed, int want, Twins.Act ahead) {
    SoldDays x = Made.people(0, 0);
    ahead.on(x);
    x.seed(seed);
    Due.due("19: how many SALES", x.loose(1), want);
    Due.due("40: z", x.count(11), drawn(seed, 3));
    for (int k = 1; k <= 6; k++) {
      Due.due("41: told(" + k + ")", x.told(k), 0);
    }
  }

  /** "how many SALES there were": of all days together, of one day and of forty. */
  private static void salesOfFortyDays() {
    for (int days = 1; days <= 40; days++) {
      SoldDays x = Made.people(0, 0, 0);
      for (int person = 0; person < 3; person++) {
        x.change(person, 1, 5000);
      }
      int[] has = new int[3 * 28];
      java.util.Arrays.fill(has, 1);
      int z = 1;
      int sales = 0;
      for (int i = 0; i < days; i++) {
        int from = (drawn(z, 1) >>> 8) % 3;
        int to = (drawn(z, 2) >>> 8) % 3;
        int day = (drawn(z, 3) >>> 8) % 28;
        z = drawn(z, 3);
        if (from != to && has[from * 28 + day] > 0) {
          has[from * 28 + day]--;
          has[to * 28 + day]++;
          sales++;
        }
      }
      Due.due("19: SALES of " + days + " days", x.loose(days), sales);
      for (int i = 0; i < has.length; i++) {
        Due.due("7: HAS behind " + days + " days", x.has(i / 28, i % 28), has[i]);
      }
    }
  }

  /** "z becomes v: what it was (any number)": what looks like an ERROR is none. */
  private static void anySeed() {
    SoldDays x = new SoldDays();
    int was = 1;
    for (int v : new int[] {0, -1, LEAST, MOST, -1000000001, -1000000006, 1}) {
      Due.due("20: seed(" + v + ")", x.seed(v), was);
      Due.due("40: z", x.count(11), v);
      was = v;
    }
    for (int k = 1; k <= 6; k++) {
      Due.due("41: told(" + k + ")", x.told(k), 0);
    }
  }
}
