/**
 * Promises 36 to 41 at their bounds: for each sentence of the document that names one, a test of its
 * own, that quotes it. What is refused stands in RefusalsTest, too.
 */
final class BoundsOfImagesTest {
  private static final int LEAST = Integer.MIN_VALUE;
  private static final int MOST = Integer.MAX_VALUE;
  private static final int CALLS = 512;

  public static void main(String[] args) {
    imageOfNothing();
    imageOfAllThatIsFull();
    imageInPlaceOfOneAhead();
    restoredAgainAndAgain();
    notInTheImage();
    restoredFromTheLastDay();
    noImage();
    atMost24Wait();
    noneWaitThen();
    checkOfNone();
    placeOfTheFirstThatIsNotSo();
    checkForNobody();
    agesFrom0To9999();
    countsFrom0To11();
    countsOfAllThatIsFull();
    countOfZIsAnyNumber();
    toldFrom1To6();
    toldOfAnotherK();
    toldOfEachError();
    faultsAreNotTold();
    asMuchAs512Calls();
    Due.end();
  }

  private static void counts(SoldDays x, int... want) {
    for (int what = 0; what < want.length; what++) {
      Due.due("40: count(" + what + ")", x.count(what), want[what]);
    }
  }

  /** "All .. is kept as an IMAGE": of an object that is as at first; behind it nothing is left. */
  private static void imageOfNothing() {
    SoldDays x = new SoldDays();
    Due.due("36: once", x.image(), 1);
    fill(x);
    Due.due("37: TODAY", x.restore(), 0);
    counts(x, 0, 0, 0, 0, 0, 0, 0, 0, 0, 0, 0, 1);
    Due.due("3: nobody", x.personIs(0, 0), Due.BEYOND);
    Due.due("13: no PROMISE", x.promiseIs(0, 0), Due.BEYOND);
    Due.due("16: no TEXT of PRICE", x.untell(0), 0);
    Due.due("16: no TEXT of DUES", x.untell(1), 0);
    Due.due("15: THE TAPE is empty", x.text(0), -10);
    Due.due("39: none waits", x.check(), 0);
    Due.due("20: z", x.seed(5), 1);
  }

  /** As much of all as there can be. */
  private static void fill(SoldDays x) {
    for (int i = 0; i < 6; i++) {
      x.person(19 + 10 * i);
      x.give(i, 1, 2 + i);
      x.change(i, 0, 9000 + i);
      x.change(i, 1, 8000 + i);
    }
    for (int i = 0; i < 8; i++) {
      x.promise(i % 6, (i + 1) % 6, i);
    }
    Due.text(x, 0, "1+".repeat(29) + "10");
    Due.text(x, 1, "2");
    x.days(9);
    x.seed(-5);
    x.loose(3);
    for (int i = 0; i < 60; i++) {
      x.feed('7', 1);
    }
    for (int i = 0; i < 24; i++) {
      x.tell(i);
    }
  }

  /** The same, of one that is full: to the last of each. */
  private static void imageOfAllThatIsFull() {
    SoldDays x = new SoldDays();
    fill(x);
    int z = x.count(11);
    int broken = x.count(5);
    int kept = x.count(4);
    int meetings = x.count(3);
    Due.due("36: once", x.image(), 1);
    x.text(0);
    x.check();
    x.untell(0);
    x.untell(1);
    x.loose(40);
    x.change(5, 0, 1);
    x.become(5, 0);
    x.give(5, 27, 0);
    Due.due("37: TODAY", x.restore(), 12);
    int[] want = {6, 8, 12, meetings, kept, broken, 0, x.count(7), 60, 24, 0, z};
    counts(x, want);
    Due.due("3: KIND of the last", x.personIs(5, 0), 6);
    Due.due("3: m of the last", x.personIs(5, 1), 9);
    Due.due("3: AGE of the last", x.personIs(5, 2), 9017);
    Due.due("7: DAY 27 of the last", x.has(5, 27), 1);
    Due.due("13: the last PROMISE", x.promiseIs(7, 2), 7);
    Due.due("17: PRICE", x.law(0, 0, 0, 0), 39);
    Due.due("17: DUES", x.law(1, 0, 0, 0), 2);
    Due.due("2: FULL", x.person(0), Due.FULL);
    Due.due("12: FULL", x.promise(0, 1, 0), Due.FULL);
    Due.due("14: FULL", x.feed(0, 1), Due.FULL);
    Due.due("38: FULL", x.tell(0), Due.FULL);
    Due.due("15: sixty digits", x.text(0), -14);
    Due.due("39: 0 isn't the AGE of the first", x.check(), 1);
  }

  /** "in place of one ahead: how often that was done" */
  private static void imageInPlaceOfOneAhead() {
    SoldDays x = new SoldDays();
    for (int i = 1; i <= 6; i++) {
      x.person(i);
      x.tell(i);
      Due.due("36: " + i, x.image(), i);
    }
    x.check();
    Due.due("37: TODAY", x.restore(), 0);
    Due.due("40: six wait", x.count(9), 6);
    Due.due("40: six PEOPLE", x.count(0), 6);
    Due.due("36: no restore() counts", x.image(), 7);
  }

  /** "All is as the IMAGE has it, which stays" */
  private static void restoredAgainAndAgain() {
    SoldDays x = new SoldDays();
    x.person(0);
    x.person(0);
    x.days(4);
    x.image();
    for (int i = 0; i < 3; i++) {
      x.loose(20);
      x.give(0, 9, i);
      x.person(7);
      Due.due("37: TODAY", x.restore(), 4);
      Due.due("40: z", x.count(11), 1);
      Due.due("40: PEOPLE", x.count(0), 2);
      Due.due("7: HAS", x.has(0, 9), 1);
      Due.due("3: MONEY", x.personIs(0, 3), 100);
      Due.due("3: AGE", x.personIs(1, 2), 4);
    }
  }

  /** "(but SHEETS, THE TRACE, what told() tells, and how often this was done)" */
  private static void notInTheImage() {
    SoldDays x = new SoldDays();
    x.person(0);
    x.sheet(0, 16, 2);
    x.voice(0, 2, 1);
    x.image();
    x.image();
    x.sheet(0, 0, 0);
    x.sheet(1, 16, 1);
    x.put(1, 0, 77);
    x.voice(0, 0, 1);
    x.has(1, 0);
    Due.due("37: restore", x.restore(), 0);
    Due.due("32: SHEET 0 is missing", x.put(0, 0, 1), Due.NONE);
    Due.due("34: SHEET 1 is there", x.funds(1), 1);
    Due.due("3: its number", x.personIs(0, 3), 77);
    Due.due("40: THE TRACE", x.count(10), 1);
    Due.due("30: THE TRACE", x.body(0), 10);
    Due.due("41: told(1)", x.told(1), 1);
    Due.due("41: told(2)", x.told(2), 1);
    Due.due("36: thrice", x.image(), 3);
  }

  /** "restore: .. TODAY": that of the IMAGE, 0 and 9999, too. */
  private static void restoredFromTheLastDay() {
    SoldDays x = new SoldDays();
    x.image();
    Made.on(x, 9999);
    Due.due("18: STATE", x.days(1), Due.STATE);
    Due.due("37: TODAY 0", x.restore(), 0);
    Due.due("40: ALONE", x.count(6), 0);
    Due.due("18: days go again", x.days(60), 0);
    Made.on(x, 9999);
    x.image();
    x.change(x.person(0), 0, 5);
    Due.due("37: TODAY 9999", x.restore(), 9999);
    Due.due("18: STATE", x.days(1), Due.STATE);
    Due.due("40: ALONE", x.count(6), 9999);
  }

  /** "NONE: there is none." */
  private static void noImage() {
    SoldDays x = new SoldDays();
    Due.due("37: none", x.restore(), Due.NONE);
    Due.due("37: none", x.restore(), Due.NONE);
    Due.due("41: told(2)", x.told(2), 2);
    Due.due("36: none was done", x.image(), 1);
    Due.due("37: there is one", x.restore(), 0);
    Due.due("41: told(2)", x.told(2), 2);
  }

  /** "One more number waits: how many. FULL: 24 wait." */
  private static void atMost24Wait() {
    SoldDays x = new SoldDays();
    for (int i = 1; i <= 24; i++) {
      Due.due("38: tell", x.tell(i % 2 == 0 ? LEAST : MOST), i);
    }
    Due.due("38: a 25th", x.tell(0), Due.FULL);
    Due.due("40: 24 wait", x.count(9), 24);
    Due.due("41: told(4)", x.told(4), 1);
  }

  /** "The numbers that wait (none do then)": whatever comes of them; 24 may wait again. */
  private static void noneWaitThen() {
    SoldDays x = new SoldDays();
    x.person(0);
    for (int round = 0; round < 3; round++) {
      for (int i = 1; i <= 24; i++) {
        Due.due("38: tell", x.tell(0), i);
      }
      Due.due("38: FULL", x.tell(0), Due.FULL);
      Due.due("39: nobody for the second", x.check(), 2);
      Due.due("40: none waits", x.count(9), 0);
      Due.due("39: none to check", x.check(), 0);
    }
    x.tell(0);
    Due.due("39: so", x.check(), 0);
    Due.due("40: none waits", x.count(9), 0);
  }

  private static void checkOfNone() {
    SoldDays x = new SoldDays();
    Due.due("39: of nobody", x.check(), 0);
    x.change(x.person(0), 0, 5);
    Due.due("39: of one", x.check(), 0);
  }

  /** "1 and the place (from 0) of the first that isn't so": each place, and no two. */
  private static void placeOfTheFirstThatIsNotSo() {
    for (int wrong = 0; wrong <= 6; wrong++) {
      SoldDays x = new SoldDays();
      for (int person = 0; person < 6; person++) {
        x.change(x.person(0), 0, 10 + person);
      }
      for (int person = 0; person < 6; person++) {
        x.tell(person < wrong ? 10 + person : 9);
      }
      Due.due("39: from " + wrong + " on", x.check(), wrong < 6 ? 1 + wrong : 0);
    }
  }

  /** "(or for which there is nobody)": fewer numbers than PEOPLE, as many, and more. */
  private static void checkForNobody() {
    for (int many = 0; many <= 6; many++) {
      for (int n = 0; n <= 24; n++) {
        SoldDays x = new SoldDays();
        for (int person = 0; person < many; person++) {
          x.person(0);
        }
        for (int i = 0; i < n; i++) {
          x.tell(0);
        }
        Due.due("39: " + n + " of " + many, x.check(), n > many ? 1 + many : 0);
      }
    }
  }

  /** Numbers that wait are any; AGES are 0 to 9999. */
  private static void agesFrom0To9999() {
    int[] numbers = {0, 9999, -1, 10000, LEAST, MOST, 65536 + 9999};
    for (int v : numbers) {
      SoldDays x = new SoldDays();
      x.change(x.person(0), 0, 9999);
      x.tell(v);
      Due.due("39: AGE 9999 and " + v, x.check(), v == 9999 ? 0 : 1);
      x.change(0, 0, 0);
      x.tell(v);
      Due.due("39: AGE 0 and " + v, x.check(), v == 0 ? 0 : 1);
    }
  }

  /** "0 PEOPLE, .. 11 z (any number). BEYOND." */
  private static void countsFrom0To11() {
    SoldDays x = new SoldDays();
    Due.due("40: count(-1)", x.count(-1), Due.BEYOND);
    Due.due("40: count(12)", x.count(12), Due.BEYOND);
    Due.due("40: count(least)", x.count(LEAST), Due.BEYOND);
    Due.due("40: count(most)", x.count(MOST), Due.BEYOND);
    counts(x, 0, 0, 0, 0, 0, 0, 0, 0, 0, 0, 0, 1);
    Due.due("41: told(1)", x.told(1), 4);
  }

  private static void countsOfAllThatIsFull() {
    SoldDays x = Made.full();
    x.voice(4, 2, 5);
    for (int person = 0; person < 6; person++) {
      x.become(person, 0);
      x.give(person, 0, 0);
      x.give(person, 3, 2);
    }
    counts(x, 6, 8, 0, 0, 0, 0, 0, 1, 60, 24, 6, 1);
    x.days(4);
    counts(x, 6, 8, 4, 6, 1, 1, 1, 1, 60, 24, 6, 1);
  }

  /** "11 z (any number)" */
  private static void countOfZIsAnyNumber() {
    SoldDays x = new SoldDays();
    for (int v : new int[] {-1000000001, -1000000002, -1000000006, LEAST, MOST, 0}) {
      x.seed(v);
      Due.due("40: z", x.count(11), v);
    }
    for (int k = 1; k <= 6; k++) {
      Due.due("41: no ERROR", x.told(k), 0);
    }
  }

  /** "How many acts have answered an ERROR LOW - k (k 1 .. 6)": LOW - 1 is -1000000001 .. */
  private static void toldFrom1To6() {
    Due.due("BEYOND", new SoldDays().person(70), -1000000001L);
    Due.due("NONE", new SoldDays().restore(), -1000000002L);
    Due.due("STATE", new SoldDays().sheet(0, 8, -1), -1000000003L);
    SoldDays x = Made.full();
    Due.due("FULL", x.person(0), -1000000004L);
    Due.due("KIND", x.as(0, 1), -1000000005L);
    Due.due("PARTED", x.voice(0, 3, 1), -1000000006L);
    int[] want = {0, 0, 0, 1, 1, 1};
    for (int k = 1; k <= 6; k++) {
      Due.due("41: told(" + k + ")", x.told(k), want[k - 1]);
    }
  }

  /** "BEYOND: another k (counted, too)." */
  private static void toldOfAnotherK() {
    SoldDays x = new SoldDays();
    int many = 0;
    for (int k : new int[] {0, 7, -1, 8, LEAST, MOST}) {
      Due.due("41: told(" + k + ")", x.told(k), Due.BEYOND);
      many++;
      Due.due("41: told(1)", x.told(1), many);
    }
    for (int k = 2; k <= 6; k++) {
      Due.due("41: told(" + k + ")", x.told(k), 0);
    }
  }

  /** One more of each ERROR, of no other; by any act. */
  private static void toldOfEachError() {
    SoldDays x = Made.full();
    Twins.Act[] acts = {y -> y.has(6, 0), y -> y.body(30), y -> y.sheet(0, 8, -1), y -> y.tell(0), y -> y.as(0, 6), y -> y.voice(0, 3, 0)};
    for (int round = 1; round <= 3; round++) {
      for (int k = 1; k <= 6; k++) {
        Due.due("an ERROR", acts[k - 1].on(x), Due.LOW - k);
        for (int of = 1; of <= 6; of++) {
          Due.due("41: told(" + of + ")", x.told(of), of <= k ? round : round - 1);
        }
      }
    }
  }

  /** What is no ERROR is not told: a FAULT, a SALE by draws that can't be, numbers that aren't so. */
  private static void faultsAreNotTold() {
    SoldDays x = new SoldDays();
    x.person(0);
    x.person(0);
    x.change(0, 1, 0);
    x.change(1, 1, 0);
    Due.due("15: a FAULT", Due.text(x, 0, "1+"), -12);
    Due.due("19: no SALE", x.loose(40), 0);
    x.tell(5);
    Due.due("39: not so", x.check(), 1);
    x.sheet(0, 8, 1);
    x.put(0, 0, -1);
    Due.due("34: no MONEY", x.funds(0), 0);
    Due.due("35: not right", x.judge(0), 0);
    Due.due("28: nobody", x.fits(0), 0);
    Due.due("16: no TEXT", x.untell(0), 0);
    for (int k = 1; k <= 6; k++) {
      Due.due("41: told(" + k + ")", x.told(k), 0);
    }
  }

  /** "An object is used for at most 512 calls": the last one answers as the first one. */
  private static void asMuchAs512Calls() {
    SoldDays x = new SoldDays();
    for (int i = 1; i <= CALLS; i++) {
      Due.due("36: image", x.image(), i);
    }
    SoldDays y = new SoldDays();
    for (int i = 1; i < CALLS; i++) {
      Due.due("37: restore", y.restore(), Due.NONE);
    }
    Due.due("41: told(2)", y.told(2), CALLS - 1);
    SoldDays z = new SoldDays();
    for (int i = 1; i < CALLS; i++) {
      Due.due("41: told(7)", z.told(7), Due.BEYOND);
    }
    Due.due("41: told(1)", z.told(1), CALLS - 1);
  }
}
