/** Promises 21 to 28: what would be. */
final class ThoughtsTest {
  public static void main(String[] args) {
    then();
    alone();
    meet();
    keepers();
    buys();
    bailiffs();
    bailiffsOfKinds();
    bailiffsErrors();
    odds();
    fits();
    Due.end();
  }

  private static void then() {
    SoldDays x = new SoldDays();
    x.person(0);
    x.person(0);
    x.give(0, 1, 3);
    x.give(0, 2, 0);
    Due.text(x, 1, "a+t");
    Due.due("21: then(0, 0, 0)", x.then(0, 0, 0), 0);
    Due.due("21: then(0, 0, 1)", x.then(0, 0, 1), 100);
    Due.due("21: then(2, 0, 0)", x.then(2, 0, 0), 4);
    Due.due("21: then(2, 0, 1)", x.then(2, 0, 1), 98);
    Due.due("21: then(4, 0, 0)", x.then(4, 0, 0), 5);
    Due.due("21: then(4, 0, 1)", x.then(4, 0, 1), 98 - 7);
    Due.due("21: then(100, 0, 0)", x.then(100, 0, 0), 100 + 2 * 4 - 4);
    Due.due("21: then(100, 0, 1)", x.then(100, 0, 1), 0);
    Due.due("21: only thought", x.count(2), 0);
    Due.due("21: only thought, AGE", x.personIs(0, 2), 0);
    x.change(0, 0, 9990);
    Due.due("21: held", x.then(50, 0, 0), 9999);
    Due.due("21: then(101, 0, 0)", x.then(101, 0, 0), Due.BEYOND);
    Due.due("21: then(-1, 0, 0)", x.then(-1, 0, 0), Due.BEYOND);
    Due.due("21: then(1, 2, 0)", x.then(1, 2, 0), Due.BEYOND);
    Due.due("21: then(1, 0, 2)", x.then(1, 0, 2), Due.BEYOND);
    Due.due("21: then(1, 0, -1)", x.then(1, 0, -1), Due.BEYOND);
    SoldDays y = new SoldDays();
    for (int i = 0; i < 166; i++) {
      y.days(60);
    }
    y.days(39);
    y.person(0);
    Due.text(y, 1, "t=9999+2");
    Due.due("21: TODAY beyond 9999", y.then(3, 0, 1), 99);
    Due.due("21: TODAY not yet beyond", y.then(2, 0, 1), 100);
  }

  private static void alone() {
    SoldDays x = new SoldDays();
    Due.due("22: alone(60) of nobody", x.alone(60), 60);
    Due.due("22: alone(0)", x.alone(0), Due.BEYOND);
    Due.due("22: alone(61)", x.alone(61), Due.BEYOND);
    x.person(0);
    x.give(0, 3, 0);
    Due.due("22: alone(3)", x.alone(3), 0);
    Due.due("22: alone(4)", x.alone(4), 1);
    Due.due("22: alone(32)", x.alone(32), 2);
    Due.due("22: alone(59)", x.alone(59), 2);
    Due.due("22: alone(60)", x.alone(60), 3);
    x.days(3);
    Due.due("22: TODAY's counts", x.alone(1), 1);
    Due.due("22: TODAY's and two more", x.alone(57), 3);
    x.person(0);
    Due.due("22: one is UP", x.alone(60), 0);
    Due.due("22: only thought", x.count(6), 0);
  }

  private static void meet() {
    SoldDays x = new SoldDays();
    x.person(0);
    x.person(0);
    Due.due("23: TODAY", x.meet(0, 1), 0);
    Due.due("23: meet(0, 0)", x.meet(0, 0), Due.BEYOND);
    Due.due("23: meet(0, 2)", x.meet(0, 2), Due.BEYOND);
    Due.due("23: meet(-1, 0)", x.meet(-1, 0), Due.BEYOND);
    for (int day = 0; day < 28; day++) {
      x.give(0, day, day == 4 || day == 20 ? 1 : 0);
    }
    Due.due("23: behind 4", x.meet(0, 1), 4);
    Due.due("23: the other way", x.meet(1, 0), 4);
    x.days(5);
    Due.due("23: behind 15", x.meet(0, 1), 15);
    x.give(1, 20, 0);
    Due.due("23: behind 27", x.meet(0, 1), 27);
    x.give(1, 4, 0);
    Due.due("23: on no DAY", x.meet(0, 1), Due.NONE);
  }

  private static void keepers() {
    SoldDays x = new SoldDays();
    Due.due("24: of nobody", x.keepers(0), Due.NONE);
    Due.due("24: keepers(2)", x.keepers(2), Due.BEYOND);
    Due.due("24: keepers(-1)", x.keepers(-1), Due.BEYOND);
    for (int i = 0; i < 4; i++) {
      x.person(0);
    }
    Due.due("24: one", x.keepers(0), 1);
    Due.due("24: the least", x.keepers(1), 1);
    for (int day = 0; day < 28; day++) {
      x.give(0, day, day < 10 ? 1 : 0);
      x.give(1, day, day >= 10 && day < 20 ? 1 : 0);
      x.give(2, day, day >= 20 ? 1 : 0);
      x.give(3, day, day >= 9 ? 1 : 0);
    }
    Due.due("24: two", x.keepers(0), 2);
    Due.due("24: 0 and 3", x.keepers(1), 9);
    x.give(3, 15, 0);
    Due.due("24: three", x.keepers(0), 3);
    Due.due("24: 0, 1, 2", x.keepers(1), 7);
    x.give(1, 16, 0);
    Due.due("24: three again", x.keepers(1), 11);
    x.give(1, 15, 0);
    Due.due("24: not even all", x.keepers(0), Due.NONE);
    Due.due("24: not even all", x.keepers(1), Due.NONE);
  }

  private static void buys() {
    SoldDays x = new SoldDays();
    x.person(0);
    x.person(0);
    Due.due("25: buys(0, 0)", x.buys(0, 0), Due.BEYOND);
    Due.due("25: buys(0, 2)", x.buys(0, 2), Due.BEYOND);
    Due.due("25: buys(2, 0)", x.buys(2, 0), Due.BEYOND);
    Due.due("25: ten for 10", x.buys(0, 1), 10);
    x.change(1, 1, 99);
    Due.due("25: nine for 10", x.buys(0, 1), 9);
    x.change(1, 1, 214);
    Due.due("25: twenty for 10, none for 15", x.buys(0, 1), 20);
    x.change(1, 1, 215);
    Due.due("25: twenty for 10, one for 15", x.buys(0, 1), 21);
    x.change(1, 1, 9999);
    x.change(0, 1, 9999);
    Due.due("25: all", x.buys(0, 1), 28);
    x.give(0, 3, 0);
    x.give(1, 8, 9);
    x.give(0, 9, 5);
    x.give(1, 10, 8);
    Due.due("25: not what one HASn't, nor 9 times", x.buys(0, 1), 26);
    x.change(1, 1, 9);
    Due.due("25: none", x.buys(0, 1), 0);
    Due.text(x, 0, "(h=5)*1+(h<5)*(50-d)");
    x.change(1, 1, 1 + 23 + 24 + 25 + 25);
    Due.due("25: the cheapest first", x.buys(0, 1), 4);
    Due.due("25: only thought", x.has(0, 9), 5);
  }

  private static void bailiffs() {
    SoldDays x = new SoldDays();
    x.person(0);
    x.person(0);
    x.promise(0, 1, 0);
    x.promise(1, 0, 1);
    x.promise(1, 0, 1);
    x.give(1, 5, 0);
    x.promise(0, 1, 5);
    taken(x, 0, 1, 10, 1, 2);
    taken(x, 0, 3, 30, 1, 2, 3, 4);
    for (int day = 3; day < 28; day++) {
      x.give(0, day, 0);
    }
    taken(x, 0, 2, 20, 2, 0, 2);
    taken(x, 0, 3, 30, 4, 0, 1, 2);
    x.give(0, 1, 2);
    taken(x, 0, 2, 20, 1, 1, 2);
    x.give(0, 5, 1);
    taken(x, 0, 2, 20, 1, 1, 2);
    x.give(0, 1, 0);
    taken(x, 0, 2, 25, 3, 2, 5);
    x.give(0, 1, 2);
    Due.text(x, 0, "d=5|d=0|100*(d=2)");
    taken(x, 0, 1, 0, 1, 1);
    taken(x, 0, 3, 2, 1, 1, 2, 5);
    x.become(0, 60);
    taken(x, 0, 3, 2, 1, 0, 1, 2);
    Due.due("26: only thought", x.has(0, 0), 1);
  }

  private static void taken(SoldDays x, int person, int n, int prices, int unkept, int... days) {
    Due.due("26: PRICES of " + n, x.bailiffs(person, n, -2), prices);
    Due.due("26: not KEPT of " + n, x.bailiffs(person, n, -1), unkept);
    for (int i = 0; i < n; i++) {
      Due.due("26: DAY " + i + " of " + n, x.bailiffs(person, n, i), days[i]);
    }
  }

  /** Who is UP all the same, when a DAY is taken, breaks nothing. */
  private static void bailiffsOfKinds() {
    SoldDays x = new SoldDays();
    x.person(53);
    x.person(0);
    x.promise(0, 1, 12);
    x.promise(1, 0, 4);
    for (int day = 0; day < 28; day++) {
      x.give(0, day, day == 4 || day == 12 ? 1 : 0);
    }
    taken(x, 0, 1, 15, 0, 12);
    taken(x, 0, 2, 25, 1, 4, 12);
    x.become(0, 50);
    taken(x, 0, 1, 10, 1, 4);
    x.become(0, 60);
    taken(x, 0, 2, 25, 0, 4, 12);
    x.become(0, 11);
    x.give(0, 12, 2);
    x.give(0, 4, 0);
    taken(x, 0, 1, 15, 1, 12);
    x.give(0, 12, 1);
    taken(x, 0, 1, 15, 2, 12);
    x.become(0, 15);
    taken(x, 0, 1, 15, 2, 12);
    x.become(0, 30);
    x.give(0, 12, 2);
    taken(x, 0, 1, 15, 1, 12);
  }

  private static void bailiffsErrors() {
    SoldDays x = new SoldDays();
    x.person(0);
    for (int day = 2; day < 28; day++) {
      x.give(0, day, 0);
    }
    x.give(0, 0, 9);
    Due.due("26: n of 0", x.bailiffs(0, 0, -1), Due.BEYOND);
    Due.due("26: n of 4", x.bailiffs(0, 4, -1), Due.BEYOND);
    Due.due("26: what of -3", x.bailiffs(0, 1, -3), Due.BEYOND);
    Due.due("26: what of n", x.bailiffs(0, 2, 2), Due.BEYOND);
    Due.due("26: nobody", x.bailiffs(1, 1, 0), Due.BEYOND);
    Due.due("26: BEYOND ahead of NONE", x.bailiffs(0, 3, 3), Due.BEYOND);
    Due.due("26: not so many DAYS", x.bailiffs(0, 3, 0), Due.NONE);
    taken(x, 0, 2, 20, 0, 0, 1);
  }

  private static void odds() {
    int[][] fractions = {{0, 1}, {1, 28}, {1, 14}, {3, 28}, {1, 7}, {5, 28}, {3, 14}, {1, 4}, {2, 7}, {9, 28}, {5, 14}, {11, 28}, {3, 7}, {13, 28}, {1, 2}, {15, 28}, {4, 7}, {17, 28}, {9, 14}, {19, 28}, {5, 7}, {3, 4}, {11, 14}, {23, 28}, {6, 7}, {25, 28}, {13, 14}, {27, 28}, {1, 1}};
    for (int up = 0; up <= 28; up++) {
      SoldDays x = Made.people(0);
      for (int day = 0; day < 28; day++) {
        x.give(0, day, day < up ? 2 : 0);
      }
      Due.due("27: above, of " + up, x.odds(0, 0), fractions[up][0]);
      Due.due("27: below, of " + up, x.odds(0, 1), fractions[up][1]);
    }
    SoldDays x = Made.people(0);
    Due.due("27: odds(0, 2)", x.odds(0, 2), Due.BEYOND);
    Due.due("27: odds(0, -1)", x.odds(0, -1), Due.BEYOND);
    Due.due("27: odds(1, 0)", x.odds(1, 0), Due.BEYOND);
  }

  private static void fits() {
    SoldDays x = new SoldDays();
    x.person(0);
    x.person(20);
    x.person(30);
    Due.due("28: missing", x.fits(0), Due.NONE);
    Due.due("28: fits(4)", x.fits(4), Due.BEYOND);
    Due.due("28: fits(-1)", x.fits(-1), Due.BEYOND);
    x.sheet(0, 16, 0);
    Due.due("28: no numbers", x.fits(0), 7);
    x.sheet(0, 16, 2);
    x.put(0, 0, 1);
    x.put(0, 1, 2);
    Due.due("28: nobody", x.fits(0), 0);
    x.give(0, 1, 2);
    x.give(1, 1, 2);
    x.give(2, 1, 3);
    Due.due("28: a person and an heir", x.fits(0), 5);
    x.put(0, 1, 3);
    Due.due("28: a widow", x.fits(0), 2);
    x.days(27);
    x.put(0, 0, 1);
    x.put(0, 1, 1);
    Due.due("28: from TODAY's on", x.fits(0), 7);
    x.days(1);
    x.put(0, 1, 2);
    Due.due("28: from TODAY's on, four weeks on", x.fits(0), 5);
  }
}
