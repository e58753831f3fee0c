/**
 * Promises 1 to 8 at their bounds: for each sentence of the document that names one, a test of its
 * own, that quotes it. What is refused stands in RefusalsTest.
 */
final class BoundsOfPeopleTest {
  public static void main(String[] args) {
    allAsAtFirst();
    atMostSixPeople();
    whatPeopleAreAtFirst();
    whoComesLate();
    kindsFromFirstToLast();
    ageFrom0To9999();
    moneyFrom0To9999();
    hasFrom0To9();
    daysFrom0To27();
    weekdayIsTheRestBySeven();
    todaysDayIsTheRestBy28();
    personLivesWhatHeHas();
    studentSkipsTheRestOfM();
    widowLivesOneMoreAboveOne();
    heirLivesHalfRoundedUp();
    truantTwiceTheDayBehind();
    merryOnFiveAndSix();
    bailiffLivesOne();
    upIfAboveZero();
    becomeAgainTheSame();
    asOneselfAndAbove();
    Due.end();
  }

  /** "All as at first; no PEOPLE, no PROMISES, no TEXTS." */
  private static void allAsAtFirst() {
    SoldDays x = new SoldDays();
    for (int what = 0; what < 11; what++) {
      Due.due("1: count(" + what + ")", x.count(what), 0);
    }
    Due.due("1: z is 1 at first", x.count(11), 1);
    for (int k = 1; k <= 6; k++) {
      Due.due("1: told(" + k + ")", x.told(k), 0);
    }
    for (int use = 0; use < 2; use++) {
      Due.due("1: no TEXT", x.untell(use), 0);
      Due.due("1: THE TAPE is empty", x.text(use), -10);
    }
    for (int sheet = 0; sheet < 4; sheet++) {
      Due.due("1: a SHEET is missing", x.judge(sheet), Due.NONE);
    }
    Due.due("1: nobody", x.personIs(0, 0), Due.BEYOND);
    Due.due("1: no PROMISE", x.promiseIs(0, 0), Due.BEYOND);
    Due.due("1: no IMAGE", x.restore(), Due.NONE);
    Due.due("1: no TRACE", x.body(0), Due.NONE);
    Due.due("1: no number waits", x.check(), 0);
  }

  /** "PEOPLE 0, 1, .. (at most 6)" */
  private static void atMostSixPeople() {
    SoldDays x = new SoldDays();
    for (int i = 0; i < 6; i++) {
      Due.due("2: number " + i, x.person(10 * i + i), i);
      Due.due("40: how many", x.count(0), i + 1);
    }
    Due.due("2: a seventh", x.person(0), Due.FULL);
    Due.due("40: six", x.count(0), 6);
    Due.due("3: the sixth is there", x.personIs(5, 1), 5);
    Due.due("3: the seventh isn't", x.personIs(6, 1), Due.BEYOND);
  }

  /** "an AGE (0 .. 9999; 0 at first), MONEY (0 .. 9999; 100 at first), and how often one HAS each DAY (.. 1 at first)" */
  private static void whatPeopleAreAtFirst() {
    for (int kind = 0; kind < 7; kind++) {
      SoldDays x = new SoldDays();
      x.person(kind * 10 + 3);
      isAsAtFirst(x, 0);
    }
  }

  private static void isAsAtFirst(SoldDays x, int person) {
    Due.due("2: AGE at first", x.personIs(person, 2), 0);
    Due.due("2: MONEY at first", x.personIs(person, 3), 100);
    for (int day = 0; day < 28; day++) {
      Due.due("2: HAS at first", x.has(person, day), 1);
    }
  }

  /** Somebody new is as at first on any TODAY, and where somebody was ahead of an IMAGE. */
  private static void whoComesLate() {
    SoldDays x = new SoldDays();
    x.person(0);
    x.image();
    x.person(0);
    x.change(1, 0, 5);
    x.change(1, 1, 5);
    Made.has(x, 1, 0, 27, 5);
    x.restore();
    x.days(60);
    Due.due("2: number 1 again", x.person(11), 1);
    isAsAtFirst(x, 1);
  }

  /** "(km: 10 times the KIND, and m)", "a number m (0 .. 9)" */
  private static void kindsFromFirstToLast() {
    for (int km = 0; km < 70; km++) {
      SoldDays x = new SoldDays();
      Due.due("2: person(" + km + ")", x.person(km), 0);
      Due.due("3: KIND of " + km, x.personIs(0, 0), km / 10);
      Due.due("3: m of " + km, x.personIs(0, 1), km % 10);
      Due.due("4: become(0, " + (69 - km) + ")", x.become(0, 69 - km), km / 10);
      Due.due("4: KIND of " + (69 - km), x.personIs(0, 0), (69 - km) / 10);
      Due.due("4: m of " + (69 - km), x.personIs(0, 1), (69 - km) % 10);
    }
  }

  /** "an AGE (0 .. 9999 ..)" */
  private static void ageFrom0To9999() {
    fromLeastToMost(0, 0);
  }

  /** "MONEY (0 .. 9999 ..)" */
  private static void moneyFrom0To9999() {
    fromLeastToMost(1, 100);
  }

  private static void fromLeastToMost(int what, int first) {
    SoldDays x = new SoldDays();
    x.person(0);
    x.person(0);
    Due.due("6: to the most", x.change(1, what, 9999), first);
    Due.due("6: above it", x.change(1, what, 10000), Due.BEYOND);
    Due.due("6: to 0", x.change(1, what, 0), 9999);
    Due.due("6: below it", x.change(1, what, -1), Due.BEYOND);
    Due.due("3: 0 now", x.personIs(1, 2 + what), 0);
    Due.due("3: that of the other one", x.personIs(0, 2 + what), first);
  }

  /** "how often one HAS each DAY (0 .. 9 ..)" */
  private static void hasFrom0To9() {
    SoldDays x = new SoldDays();
    x.person(0);
    Due.due("8: 9 times", x.give(0, 13, 9), 1);
    Due.due("8: 10 times", x.give(0, 13, 10), Due.BEYOND);
    Due.due("7: 9 times", x.has(0, 13), 9);
    Due.due("8: 0 times", x.give(0, 13, 0), 9);
    Due.due("8: -1 times", x.give(0, 13, -1), Due.BEYOND);
    Due.due("7: 0 times", x.has(0, 13), 0);
  }

  /** "THE CALENDAR has DAYS 0 .. 27": the last one of somebody is not the first one of the next. */
  private static void daysFrom0To27() {
    SoldDays x = new SoldDays();
    x.person(0);
    x.person(0);
    x.person(0);
    x.give(1, 0, 4);
    x.give(1, 27, 6);
    for (int person = 0; person < 3; person++) {
      for (int day = 0; day < 28; day++) {
        int often = person != 1 ? 1 : day == 0 ? 4 : day == 27 ? 6 : 1;
        Due.due("7: has(" + person + ", " + day + ")", x.has(person, day), often);
      }
    }
    Due.due("7: has(1, 28)", x.has(1, 28), Due.BEYOND);
    Due.due("7: has(1, -1)", x.has(1, -1), Due.BEYOND);
  }

  /** "DAYS 0 .. 27, of which the weekday is the rest by 7": a student of weekday 6 skips 6, 13, 20, 27. */
  private static void weekdayIsTheRestBySeven() {
    SoldDays x = new SoldDays();
    x.person(16);
    for (int day = 0; day < 28; day++) {
      Due.due("3: LIVES of DAY " + day, x.personIs(0, 4), day % 7 == 6 ? 0 : 1);
      x.days(1);
    }
  }

  /** "TODAY (0 .. 9999; 0 at first): the DAY that goes is its rest by 28." */
  private static void todaysDayIsTheRestBy28() {
    SoldDays x = new SoldDays();
    x.person(0);
    x.give(0, 0, 2);
    x.give(0, 3, 3);
    x.give(0, 27, 4);
    Due.due("3: TODAY 0", x.personIs(0, 4), 2);
    x.days(27);
    Due.due("3: TODAY 27", x.personIs(0, 4), 4);
    x.days(1);
    Due.due("3: TODAY 28", x.personIs(0, 4), 2);
    x.days(27);
    Due.due("3: TODAY 55", x.personIs(0, 4), 4);
    Made.on(x, 9998);
    Due.due("3: TODAY 9998, DAY 2", x.personIs(0, 4), 1);
    x.days(1);
    Due.due("3: TODAY 9999, DAY 3", x.personIs(0, 4), 3);
  }

  /** What one of a KIND LIVES of TODAY's DAY, a weekday, that one HAS so often. */
  private static void lives(int km, int weekday, int often, int want) {
    SoldDays x = new SoldDays();
    x.person(km);
    if (weekday > 0) {
      x.days(weekday);
    }
    x.give(0, weekday, often);
    Due.due("3: " + km + " LIVES of weekday " + weekday + ", had " + often, x.personIs(0, 4), want);
  }

  /** "PERSON: as often as one HAS it." */
  private static void personLivesWhatHeHas() {
    for (int often = 0; often <= 9; often++) {
      lives(9, 2, often, often);
    }
  }

  /** "STUDENT: 0, if the weekday is the rest of m by 7; else as PERSON." */
  private static void studentSkipsTheRestOfM() {
    for (int m = 0; m <= 9; m++) {
      for (int weekday = 0; weekday < 7; weekday++) {
        boolean isSkipped = weekday == m || weekday == m - 7;
        lives(10 + m, weekday, 9, isSkipped ? 0 : 9);
        lives(10 + m, weekday, 0, 0);
      }
    }
  }

  /** "WIDOW: as PERSON, and 1 more, if that is above 1." */
  private static void widowLivesOneMoreAboveOne() {
    lives(20, 5, 0, 0);
    lives(20, 5, 1, 1);
    lives(20, 5, 2, 3);
    lives(29, 6, 9, 10);
  }

  /** "HEIR: half of PERSON's (what is over rounded up)." */
  private static void heirLivesHalfRoundedUp() {
    int[] halves = {0, 1, 1, 2, 2, 3, 3, 4, 4, 5};
    for (int often = 0; often <= 9; often++) {
      lives(33, 3, often, halves[often]);
    }
  }

  /** "TRUANT: as STUDENT, twice that, if the weekday is the rest of m and 1 by 7." */
  private static void truantTwiceTheDayBehind() {
    for (int m = 0; m <= 9; m++) {
      for (int weekday = 0; weekday < 7; weekday++) {
        boolean isSkipped = weekday == m || weekday == m - 7;
        boolean isBehind = weekday == m + 1 || weekday == m - 6;
        lives(40 + m, weekday, 9, isSkipped ? 0 : isBehind ? 18 : 9);
      }
      lives(40 + m, (m + 1) % 7, 0, 0);
      lives(40 + m, (m + 1) % 7, 1, 2);
    }
  }

  /** "MERRY: as WIDOW, and m more, if the weekday is 5 or 6." */
  private static void merryOnFiveAndSix() {
    for (int weekday = 0; weekday < 7; weekday++) {
      int more = weekday == 5 || weekday == 6 ? 9 : 0;
      lives(59, weekday, 0, more);
      lives(59, weekday, 1, 1 + more);
      lives(59, weekday, 2, 3 + more);
      lives(59, weekday, 9, 10 + more);
      lives(50, weekday, 0, 0);
      lives(50, weekday, 2, 3);
    }
  }

  /** "BAILIFF: 1." */
  private static void bailiffLivesOne() {
    lives(60, 0, 0, 1);
    lives(69, 6, 1, 1);
    lives(65, 5, 9, 1);
  }

  /** "One is UP on a DAY, if LIVES of it is above 0." */
  private static void upIfAboveZero() {
    isUp(0, 0, 0);
    isUp(0, 1, 1);
    isUp(10, 9, 0);
    isUp(30, 1, 1);
    isUp(30, 0, 0);
    isUp(46, 1, 1);
    isUp(60, 0, 1);
    isUp(20, 0, 0);
  }

  private static void isUp(int km, int often, int want) {
    SoldDays x = new SoldDays();
    x.person(km);
    x.give(0, 0, often);
    Due.due("18: " + km + " had " + often + " is UP", x.days(1), want);
  }

  /** "Somebody becomes one of a KIND, with m (km): the KIND that one was": the same one, too. */
  private static void becomeAgainTheSame() {
    SoldDays x = new SoldDays();
    x.person(37);
    Due.due("4: the same", x.become(0, 37), 3);
    Due.due("4: another m", x.become(0, 30), 3);
    Due.due("3: m", x.personIs(0, 1), 0);
    Due.due("4: down", x.become(0, 0), 3);
    Due.due("4: up", x.become(0, 69), 0);
    isAsAtFirst(x, 0);
  }

  /** "KIND: one isn't of that KIND, nor of one under it": one is of one's own, and of those above it. */
  private static void asOneselfAndAbove() {
    int[] above = {0, 0, 0, 0, 1, 2, 0};
    for (int kind = 0; kind < 7; kind++) {
      SoldDays x = new SoldDays();
      x.person(kind * 10 + 9);
      int of = 0;
      for (int as = 0; as < 7; as++) {
        boolean isSo = as == kind || as == above[kind] || as == 0;
        Due.due("5: " + kind + " as " + as, x.as(0, as), isSo ? 9 : Due.KIND);
        of += isSo ? 0 : 1;
      }
      Due.due("41: told(5)", x.told(5), of);
      Due.due("5: as(0, 7)", x.as(0, 7), Due.BEYOND);
      Due.due("5: as(0, -1)", x.as(0, -1), Due.BEYOND);
    }
  }
}
