/** Promises 18 to 20: days go, by draws too, and the seed. */
final class DaysTest {
  public static void main(String[] args) {
    bounds();
    onesDay();
    dues();
    meetings();
    settledPromises();
    aloneCat();
    draws();
    sellersOfDraws();
    Due.end();
  }

  private static void bounds() {
    SoldDays x = new SoldDays();
    Due.due("18: days(0)", x.days(0), Due.BEYOND);
    Due.due("18: days(61)", x.days(61), Due.BEYOND);
    Due.due("18: days(-1)", x.days(-1), Due.BEYOND);
    Due.due("19: loose(0)", x.loose(0), Due.BEYOND);
    Due.due("19: loose(41)", x.loose(41), Due.BEYOND);
    x.person(0);
    for (int i = 0; i < 166; i++) {
      Due.due("18: days(60)", x.days(60), 60);
    }
    Due.due("40: TODAY", x.count(2), 9960);
    Due.due("18: days(40)", x.days(40), Due.STATE);
    Due.due("18: days(61) late", x.days(61), Due.BEYOND);
    Due.due("19: loose(40)", x.loose(40), Due.STATE);
    Due.due("19: loose(39)", x.loose(39), 0);
    Due.due("40: TODAY at last", x.count(2), 9999);
    Due.due("18: days(1)", x.days(1), Due.STATE);
    Due.due("19: loose(1)", x.loose(1), Due.STATE);
    Due.due("18: AGE is held", x.personIs(0, 2), 9999);
  }

  private static void onesDay() {
    SoldDays x = new SoldDays();
    x.person(0);
    x.person(13);
    x.person(60);
    x.give(0, 1, 0);
    x.give(0, 2, 3);
    x.give(2, 3, 5);
    Due.due("18: two days", x.days(2), 5);
    Due.due("18: AGE of a person", x.personIs(0, 2), 1);
    Due.due("18: two more", x.days(2), 5);
    Due.due("18: AGE of a person, thrice", x.personIs(0, 2), 5);
    Due.due("18: AGE of a student", x.personIs(1, 2), 3);
    Due.due("18: AGE of a bailiff", x.personIs(2, 2), 4);
    Due.due("18: TODAY", x.count(2), 4);
    x.change(0, 0, 9998);
    x.give(0, 4, 9);
    x.days(1);
    Due.due("18: AGE held", x.personIs(0, 2), 9999);
    Due.due("18: HAS stays", x.has(0, 4), 9);
  }

  private static void dues() {
    SoldDays x = new SoldDays();
    x.person(0);
    x.person(0);
    x.give(1, 1, 0);
    Due.text(x, 1, "a+t*10+m/100");
    Due.due("18: one day", x.days(1), 2);
    Due.due("18: DUES of AGE ahead", x.personIs(0, 3), 99);
    x.days(1);
    Due.due("18: DUES of TODAY", x.personIs(0, 3), 99 - 11);
    Due.due("18: no DUES if not UP", x.personIs(1, 3), 99);
    x.change(0, 1, 20);
    x.days(1);
    Due.due("18: MONEY 0 at least", x.personIs(0, 3), 0);
    Due.text(x, 1, "m");
    x.change(1, 1, 9999);
    x.days(1);
    Due.due("18: DUES held at 99", x.personIs(1, 3), 9900);
  }

  private static void meetings() {
    SoldDays x = new SoldDays();
    x.person(0);
    x.person(10);
    x.person(60);
    x.person(55);
    x.give(0, 0, 2);
    x.give(1, 0, 2);
    x.give(2, 0, 2);
    x.give(3, 0, 1);
    x.days(1);
    Due.due("18: MEETINGS", x.count(3), 2);
    x.give(3, 5, 0);
    x.days(27);
    Due.due("18: who LIVES more but HAS less", x.count(3), 2);
    x.days(1);
    Due.due("18: MEETINGS again", x.count(3), 4);
    SoldDays y = new SoldDays();
    for (int person = 0; person < 6; person++) {
      y.person(0);
      for (int day = 0; day < 28; day++) {
        y.give(person, day, 2);
      }
    }
    for (int i = 0; i < 28; i++) {
      Due.due("18: six are UP", y.days(60), 360);
    }
    Due.due("18: MEETINGS held", y.count(3), 9999);
  }

  private static void settledPromises() {
    SoldDays x = new SoldDays();
    x.person(0);
    x.person(0);
    x.promise(0, 1, 0);
    x.promise(1, 0, 0);
    x.promise(0, 1, 1);
    x.promise(0, 1, 2);
    x.give(1, 1, 0);
    x.days(1);
    Due.due("18: KEPT", x.count(4), 2);
    Due.due("18: BROKEN", x.count(5), 0);
    x.days(1);
    Due.due("18: KEPT still", x.count(4), 2);
    Due.due("18: BROKEN", x.count(5), 1);
    x.days(28);
    Due.due("18: KEPT in four weeks more", x.count(4), 5);
    Due.due("18: BROKEN in four weeks more", x.count(5), 2);
    Due.due("18: PROMISES stay", x.count(1), 4);
  }

  private static void aloneCat() {
    SoldDays x = new SoldDays();
    Due.due("18: nobody", x.days(3), 0);
    Due.due("18: ALONE", x.count(6), 3);
    x.person(14);
    Due.due("18: a student", x.days(4), 3);
    Due.due("18: ALONE once more", x.count(6), 4);
    SoldDays y = new SoldDays();
    for (int i = 0; i < 166; i++) {
      y.days(60);
    }
    y.days(39);
    Due.due("18: ALONE at most", y.count(6), 9999);
  }

  private static void draws() {
    SoldDays x = new SoldDays();
    Due.due("20: seed(5)", x.seed(5), 1);
    Due.due("20: seed(-7)", x.seed(-7), 5);
    Due.due("19: nobody", x.loose(3), 0);
    Due.due("19: no draws of nobody", x.count(11), -7);
    x.person(0);
    x.loose(3);
    Due.due("19: no draws of one", x.count(11), -7);
    Due.due("19: days go", x.count(2), 6);
    x.person(0);
    x.loose(1);
    int z = -7;
    for (int i = 0; i < 3; i++) {
      z = z * 1103515245 + 12345;
    }
    Due.due("19: three draws of two", x.count(11), z);
    Due.due("20: seed(least)", x.seed(Integer.MIN_VALUE), z);
    Due.due("20: seed(1)", x.seed(1), Integer.MIN_VALUE);
  }

  /** Each SALE by draws, from many seeds, against the one that the draws name. */
  private static void sellersOfDraws() {
    for (int seed = 0; seed < 60; seed++) {
      SoldDays x = new SoldDays();
      for (int i = 0; i < 3; i++) {
        x.person(0);
      }
      x.seed(seed * 7919);
      int z = seed * 7919;
      int[] draws = new int[3];
      for (int i = 0; i < 3; i++) {
        z = z * 1103515245 + 12345;
        draws[i] = z >>> 8;
      }
      int from = draws[0] % 3;
      int to = draws[1] % 3;
      int day = draws[2] % 28;
      boolean canBe = seed % 4 != 0;
      if (!canBe) {
        x.give(from, day, 0);
      }
      int had = x.has(from, day);
      int got = x.has(to, day);
      boolean isSale = from != to && canBe;
      String call = "19: seed " + seed * 7919;
      Due.due(call, x.loose(1), isSale ? 1 : 0);
      Due.due(call + ": who sold", x.has(from, day), isSale ? had - 1 : had);
      Due.due(call + ": who bought", x.has(to, day), isSale ? got + 1 : got);
      if (isSale) {
        Due.due(call + ": MONEY", x.personIs(to, 3), day % 7 > 4 ? 85 : 90);
        Due.due(call + ": the DAY goes behind the SALE", x.personIs(from, 2), day == 0 ? 0 : 1);
      }
    }
  }
}
