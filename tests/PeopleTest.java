/** Promises 1 to 8: a new object, people, how often they HAVE days, what they LIVE. */
final class PeopleTest {
  public static void main(String[] args) {
    newObject();
    people();
    kinds();
    changes();
    days();
    lives();
    Due.end();
  }

  private static void newObject() {
    SoldDays x = new SoldDays();
    int[] first = {0, 0, 0, 0, 0, 0, 0, 0, 0, 0, 0, 1};
    for (int what = 0; what < first.length; what++) {
      Due.due("1: count(" + what + ")", x.count(what), first[what]);
    }
    for (int k = 1; k <= 6; k++) {
      Due.due("1: told(" + k + ")", x.told(k), 0);
    }
    Due.due("1: untell(0)", x.untell(0), 0);
    Due.due("1: untell(1)", x.untell(1), 0);
    Due.due("1: put(3, 0, 0)", x.put(3, 0, 0), Due.NONE);
    Due.due("1: restore()", x.restore(), Due.NONE);
    Due.due("1: body(0)", x.body(0), Due.NONE);
    Due.due("1: seed(9)", x.seed(9), 1);
  }

  private static void people() {
    SoldDays x = new SoldDays();
    Due.due("2: person(-1)", x.person(-1), Due.BEYOND);
    Due.due("2: person(70)", x.person(70), Due.BEYOND);
    Due.due("2: person(min)", x.person(Integer.MIN_VALUE), Due.BEYOND);
    Due.due("3: personIs(0, 0) of nobody", x.personIs(0, 0), Due.BEYOND);
    Due.due("2: person(69)", x.person(69), 0);
    Due.due("2: person(0)", x.person(0), 1);
    Due.due("2: person(25)", x.person(25), 2);
    Due.due("2: person(33)", x.person(33), 3);
    Due.due("2: person(41)", x.person(41), 4);
    Due.due("2: person(58)", x.person(58), 5);
    Due.due("2: person(0) full", x.person(0), Due.FULL);
    Due.due("2: person(70) full", x.person(70), Due.BEYOND);
    int[][] is = {{6, 9, 0, 100, 1}, {0, 0, 0, 100, 1}, {2, 5, 0, 100, 1}, {3, 3, 0, 100, 1}, {4, 1, 0, 100, 1}, {5, 8, 0, 100, 1}};
    for (int person = 0; person < 6; person++) {
      for (int what = 0; what < 5; what++) {
        Due.due("3: personIs(" + person + ", " + what + ")", x.personIs(person, what), is[person][what]);
      }
      for (int day = 0; day < 28; day++) {
        Due.due("7: has(" + person + ", " + day + ")", x.has(person, day), 1);
      }
    }
    Due.due("3: personIs(0, 5)", x.personIs(0, 5), Due.BEYOND);
    Due.due("3: personIs(0, -1)", x.personIs(0, -1), Due.BEYOND);
    Due.due("3: personIs(6, 0)", x.personIs(6, 0), Due.BEYOND);
    Due.due("3: personIs(-1, 0)", x.personIs(-1, 0), Due.BEYOND);
    Due.due("40: count(0)", x.count(0), 6);
  }

  private static void kinds() {
    SoldDays x = new SoldDays();
    x.person(17);
    x.change(0, 0, 40);
    x.change(0, 1, 41);
    x.give(0, 3, 4);
    Due.due("4: become(0, 70)", x.become(0, 70), Due.BEYOND);
    Due.due("4: become(0, -1)", x.become(0, -1), Due.BEYOND);
    Due.due("4: become(1, 0)", x.become(1, 0), Due.BEYOND);
    Due.due("4: become(-1, 0)", x.become(-1, 0), Due.BEYOND);
    Due.due("4: become(0, 62)", x.become(0, 62), 1);
    Due.due("4: become(0, 45)", x.become(0, 45), 6);
    Due.due("4: kind", x.personIs(0, 0), 4);
    Due.due("4: m", x.personIs(0, 1), 5);
    Due.due("4: AGE stays", x.personIs(0, 2), 40);
    Due.due("4: MONEY stays", x.personIs(0, 3), 41);
    Due.due("4: HAS stays", x.has(0, 3), 4);
    boolean[][] isUnder = {
      {true, false, false, false, false, false, false},
      {true, true, false, false, false, false, false},
      {true, false, true, false, false, false, false},
      {true, false, false, true, false, false, false},
      {true, true, false, false, true, false, false},
      {true, false, true, false, false, true, false},
      {true, false, false, false, false, false, true},
    };
    for (int kind = 0; kind < 7; kind++) {
      x.become(0, kind * 10 + 9 - kind);
      for (int as = 0; as < 7; as++) {
        Due.due("5: as(0, " + as + ") of " + kind, x.as(0, as), isUnder[kind][as] ? 9 - kind : Due.KIND);
      }
    }
    Due.due("5: as(0, 7)", x.as(0, 7), Due.BEYOND);
    Due.due("5: as(0, -1)", x.as(0, -1), Due.BEYOND);
    Due.due("5: as(1, 0)", x.as(1, 0), Due.BEYOND);
  }

  private static void changes() {
    SoldDays x = new SoldDays();
    x.person(0);
    x.person(0);
    Due.due("6: change(0, 0, 9999)", x.change(0, 0, 9999), 0);
    Due.due("6: change(0, 0, 0)", x.change(0, 0, 0), 9999);
    Due.due("6: change(0, 1, 9999)", x.change(0, 1, 9999), 100);
    Due.due("6: change(0, 1, 10000)", x.change(0, 1, 10000), Due.BEYOND);
    Due.due("6: change(0, 1, -1)", x.change(0, 1, -1), Due.BEYOND);
    Due.due("6: change(0, 2, 0)", x.change(0, 2, 0), Due.BEYOND);
    Due.due("6: change(0, -1, 0)", x.change(0, -1, 0), Due.BEYOND);
    Due.due("6: change(2, 0, 0)", x.change(2, 0, 0), Due.BEYOND);
    Due.due("6: MONEY", x.personIs(0, 3), 9999);
    Due.due("6: MONEY of the other", x.personIs(1, 3), 100);
  }

  private static void days() {
    SoldDays x = new SoldDays();
    x.person(0);
    x.person(0);
    Due.due("8: give(0, 27, 9)", x.give(0, 27, 9), 1);
    Due.due("8: give(0, 27, 0)", x.give(0, 27, 0), 9);
    Due.due("8: give(0, 0, 5)", x.give(0, 0, 5), 1);
    Due.due("7: has(0, 27)", x.has(0, 27), 0);
    Due.due("7: has(0, 0)", x.has(0, 0), 5);
    Due.due("7: has(1, 0)", x.has(1, 0), 1);
    Due.due("7: has(1, 27)", x.has(1, 27), 1);
    Due.due("8: give(0, 0, 10)", x.give(0, 0, 10), Due.BEYOND);
    Due.due("8: give(0, 0, -1)", x.give(0, 0, -1), Due.BEYOND);
    Due.due("8: give(0, 28, 1)", x.give(0, 28, 1), Due.BEYOND);
    Due.due("8: give(0, -1, 1)", x.give(0, -1, 1), Due.BEYOND);
    Due.due("8: give(2, 0, 1)", x.give(2, 0, 1), Due.BEYOND);
    Due.due("7: has(0, 28)", x.has(0, 28), Due.BEYOND);
    Due.due("7: has(0, -1)", x.has(0, -1), Due.BEYOND);
    Due.due("7: has(2, 0)", x.has(2, 0), Due.BEYOND);
    Due.due("7: has(-1, 0)", x.has(-1, 0), Due.BEYOND);
    Due.due("8: still", x.has(0, 0), 5);
  }

  /** What one of each KIND LIVES of a weekday that one HAS so often: {km, weekday, times, lives}. */
  private static void lives() {
    int[][] rows = {
      {4, 0, 0, 0}, {4, 4, 1, 1}, {4, 6, 9, 9},
      {10, 0, 5, 0}, {10, 1, 5, 5}, {17, 0, 5, 0}, {17, 1, 2, 2}, {19, 2, 3, 0}, {13, 3, 1, 0},
      {20, 0, 0, 0}, {20, 0, 1, 1}, {20, 0, 2, 3}, {26, 6, 9, 10},
      {30, 0, 0, 0}, {30, 0, 1, 1}, {30, 0, 2, 1}, {30, 0, 3, 2}, {30, 0, 9, 5},
      {40, 0, 4, 0}, {40, 1, 4, 8}, {40, 2, 4, 4}, {46, 6, 3, 0}, {46, 0, 3, 6}, {47, 0, 3, 0}, {47, 1, 9, 18}, {49, 3, 1, 2},
      {53, 4, 0, 0}, {53, 5, 0, 3}, {53, 6, 0, 3}, {53, 5, 1, 4}, {53, 6, 2, 6}, {53, 4, 2, 3}, {50, 5, 0, 0}, {59, 6, 9, 19},
      {60, 0, 0, 1}, {69, 5, 9, 1},
    };
    for (int[] row : rows) {
      SoldDays x = new SoldDays();
      x.person(60);
      if (row[1] > 0) {
        x.days(row[1]);
      }
      x.become(0, row[0]);
      x.give(0, row[1], row[2]);
      String call = "3: LIVES of " + row[0] + ", weekday " + row[1] + ", has " + row[2];
      Due.due(call, x.personIs(0, 4), row[3]);
      x.days(1);
      Due.due(call + ": UP", x.count(6), row[3] > 0 ? 0 : 1);
    }
    SoldDays x = new SoldDays();
    x.person(0);
    x.give(0, 2, 7);
    x.days(30);
    Due.due("3: LIVES of TODAY's DAY", x.personIs(0, 4), 7);
  }
}
