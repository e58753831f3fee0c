/**
 * Days that may be made over: people who live them, sales, promises, texts that are laws, what
 * would be, voices, sheets and an image of it all. ../shared/DOC.md says what each call answers.
 *
 * Every row is made once, with the object, and used again: no call makes anything new.
 */
public final class SoldDays {

  private static final int LOW = -1000000000;
  private static final int BEYOND = 1;
  private static final int NONE = 2;
  private static final int STATE = 3;
  private static final int FULL = 4;
  private static final int KIND = 5;
  private static final int PARTED = 6;

  private static final int DAYS = 28;
  private static final int WEEK = 7;
  private static final int WEEKS = 4;
  private static final int MOST_PEOPLE = 6;
  private static final int MOST_PROMISES = 8;
  private static final int MOST_BYTES = 60;
  private static final int MOST_WAITING = 24;
  private static final int MOST_TRACED = 30;
  private static final int MOST_SHEETS = 4;
  private static final int MOST_NUMBERS = 24;
  private static final int MOST_TIMES = 9;
  private static final int MOST = 9999;

  private static final int PRICE = 0;
  private static final int DUES = 1;

  private final World now;
  private final World image;
  private final Reader reader;
  private final Thoughts thoughts;
  private final Voices voices;
  private final Sheets sheets;
  private final int[] errors;
  private int images;

  public SoldDays() {
    now = new World();
    image = new World();
    reader = new Reader();
    thoughts = new Thoughts();
    voices = new Voices();
    sheets = new Sheets();
    errors = new int[PARTED + 1];
    images = 0;
  }

  private int error(int k) {
    errors[k]++;
    return LOW - k;
  }

  private static boolean isDay(int day) {
    return day >= 0 && day < DAYS;
  }

  private static boolean isUse(int use) {
    return use == PRICE || use == DUES;
  }

  private static boolean isWithin(int v, int least, int most) {
    return v >= least && v <= most;
  }

  // ---- people, days

  public int person(int km) {
    if (!Kinds.isKindAndNumber(km)) {
      return error(BEYOND);
    }
    if (now.people.size >= MOST_PEOPLE) {
      return error(FULL);
    }
    return now.people.join(km);
  }

  public int personIs(int person, int what) {
    People people = now.people;
    if (!people.knows(person) || !isWithin(what, 0, 4)) {
      return error(BEYOND);
    }
    switch (what) {
      case 0:
        return people.kinds[person];
      case 1:
        return people.numbers[person];
      case 2:
        return people.ages[person];
      case 3:
        return people.moneys[person];
      default:
        return people.livesOf(person, now.dayIn(0));
    }
  }

  public int become(int person, int km) {
    if (!now.people.knows(person) || !Kinds.isKindAndNumber(km)) {
      return error(BEYOND);
    }
    int was = now.people.kinds[person];
    now.people.setKind(person, km);
    return was;
  }

  public int as(int person, int kind) {
    if (!now.people.knows(person) || !Kinds.isKind(kind)) {
      return error(BEYOND);
    }
    if (!Kinds.isUnder(now.people.kinds[person], kind)) {
      return error(KIND);
    }
    return now.people.numbers[person];
  }

  public int change(int person, int what, int v) {
    if (!now.people.knows(person) || !isWithin(what, 0, 1) || !isWithin(v, 0, MOST)) {
      return error(BEYOND);
    }
    int[] row = what == 0 ? now.people.ages : now.people.moneys;
    int was = row[person];
    row[person] = v;
    return was;
  }

  public int has(int person, int day) {
    if (!now.people.knows(person) || !isDay(day)) {
      return error(BEYOND);
    }
    return now.people.timesOf(person, day);
  }

  public int give(int person, int day, int v) {
    if (!now.people.knows(person) || !isDay(day) || !isWithin(v, 0, MOST_TIMES)) {
      return error(BEYOND);
    }
    int was = now.people.timesOf(person, day);
    now.people.setTimes(person, day, v);
    return was;
  }

  // ---- sales, promises

  public int price(int person, int day) {
    if (!now.people.knows(person) || !isDay(day)) {
      return error(BEYOND);
    }
    return now.priceOf(person, day);
  }

  public int sell(int person, int other, int day) {
    if (!now.people.areTwo(person, other) || !isDay(day)) {
      return error(BEYOND);
    }
    if (!now.saleCanBe(person, other, day)) {
      return error(STATE);
    }
    return now.makeSale(person, other, day);
  }

  public int sellWeek(int person, int other, int week) {
    if (!now.people.areTwo(person, other) || !isWithin(week, 0, WEEKS - 1)) {
      return error(BEYOND);
    }
    if (!now.weekCanBe(person, other, week)) {
      return error(STATE);
    }
    int together = 0;
    for (int day = week * WEEK; day < (week + 1) * WEEK; day++) {
      together += now.makeSale(person, other, day);
    }
    return together;
  }

  public int promise(int person, int other, int day) {
    if (!now.people.areTwo(person, other) || !isDay(day)) {
      return error(BEYOND);
    }
    if (now.promises.size >= MOST_PROMISES) {
      return error(FULL);
    }
    return now.promises.join(person, other, day);
  }

  public int promiseIs(int promise, int what) {
    Promises promises = now.promises;
    if (!isWithin(promise, 0, promises.size - 1) || !isWithin(what, 0, 3)) {
      return error(BEYOND);
    }
    switch (what) {
      case 0:
        return promises.givers[promise];
      case 1:
        return promises.takers[promise];
      case 2:
        return promises.dates[promise];
      default:
        return promises.isKept(promise, now.people) ? 1 : 0;
    }
  }

  // ---- texts

  public int feed(long word, int n) {
    if (!isWithin(n, 1, 8)) {
      return error(BEYOND);
    }
    if (now.tape.size > MOST_BYTES - n) {
      return error(FULL);
    }
    for (int i = 0; i < n; i++) {
      now.tape.add((int) (word >>> (8 * i)) & 255);
    }
    return now.tape.size;
  }

  public int text(int use) {
    if (!isUse(use)) {
      return error(BEYOND);
    }
    int fault = reader.faultOf(now.tape, use);
    now.tape.size = 0;
    if (fault >= 0) {
      return -10 - fault;
    }
    now.textOf(use).steps.copyFrom(reader.steps);
    return 1;
  }

  public int untell(int use) {
    if (!isUse(use)) {
      return error(BEYOND);
    }
    int was = now.textOf(use).isThere() ? 1 : 0;
    now.textOf(use).steps.size = 0;
    return was;
  }

  public int law(int use, int a, int b, int c) {
    if (!isUse(use)) {
      return error(BEYOND);
    }
    return now.useGives(use, a, b, c);
  }

  // ---- days go

  public int days(int n) {
    if (!isWithin(n, 1, 60)) {
      return error(BEYOND);
    }
    if (now.today > MOST - n) {
      return error(STATE);
    }
    int up = 0;
    for (int i = 0; i < n; i++) {
      up += now.letDayGo();
    }
    return up;
  }

  public int loose(int n) {
    if (!isWithin(n, 1, 40)) {
      return error(BEYOND);
    }
    if (now.today > MOST - n) {
      return error(STATE);
    }
    int sales = 0;
    for (int i = 0; i < n; i++) {
      sales += now.saleByDraws();
      now.letDayGo();
    }
    return sales;
  }

  public int seed(int v) {
    int was = now.z;
    now.z = v;
    return was;
  }

  // ---- what would be

  public int then(int n, int person, int what) {
    if (!isWithin(n, 0, 100) || !now.people.knows(person) || !isWithin(what, 0, 1)) {
      return error(BEYOND);
    }
    int age = now.people.ages[person];
    int money = now.people.moneys[person];
    for (int i = 0; i < n; i++) {
      int lives = now.people.livesOf(person, now.dayIn(i));
      if (lives > 0) {
        int dues = now.useGives(DUES, age, now.today + i, money);
        age = World.older(age, lives);
        money = World.poorer(money, dues);
      }
    }
    return what == 0 ? age : money;
  }

  public int alone(int n) {
    if (!isWithin(n, 1, 60)) {
      return error(BEYOND);
    }
    int empty = 0;
    for (int i = 0; i < n; i++) {
      if (now.people.howManyUp(now.dayIn(i)) == 0) {
        empty++;
      }
    }
    return empty;
  }

  public int meet(int person, int other) {
    if (!now.people.areTwo(person, other)) {
      return error(BEYOND);
    }
    int both = now.people.upDays(person) & now.people.upDays(other);
    for (int i = 0; i < DAYS; i++) {
      if ((both >> now.dayIn(i) & 1) == 1) {
        return i;
      }
    }
    return error(NONE);
  }

  public int keepers(int what) {
    if (!isWithin(what, 0, 1)) {
      return error(BEYOND);
    }
    int set = thoughts.fewestKeepers(now.people);
    if (set == 0) {
      return error(NONE);
    }
    return what == 0 ? Integer.bitCount(set) : set;
  }

  public int buys(int person, int other) {
    if (!now.people.areTwo(person, other)) {
      return error(BEYOND);
    }
    return thoughts.howManyBought(now, person, other);
  }

  public int bailiffs(int person, int n, int what) {
    if (!now.people.knows(person) || !isWithin(n, 1, 3) || !isWithin(what, -2, n - 1)) {
      return error(BEYOND);
    }
    if (now.people.howManyDays(person) < n) {
      return error(NONE);
    }
    int taken = thoughts.takenByBailiffs(now, person, n);
    switch (what) {
      case -2:
        return thoughts.pricesOf(taken);
      case -1:
        return now.promises.howManyUnkept(now.people) + thoughts.harmsOf(taken);
      default:
        return Thoughts.memberOf(taken, what);
    }
  }

  public int odds(int person, int part) {
    if (!now.people.knows(person) || !isWithin(part, 0, 1)) {
      return error(BEYOND);
    }
    int up = Integer.bitCount(now.people.upDays(person));
    return (part == 0 ? up : DAYS) / Thoughts.commonDivisor(up);
  }

  public int fits(int sheet) {
    if (!Sheets.isSheet(sheet)) {
      return error(BEYOND);
    }
    if (sheets.isMissing(sheet)) {
      return error(NONE);
    }
    int set = 0;
    for (int person = 0; person < now.people.size; person++) {
      if (livesAsTold(person, sheet)) {
        set |= 1 << person;
      }
    }
    return set;
  }

  private boolean livesAsTold(int person, int sheet) {
    for (int i = 0; i < sheets.sizes[sheet]; i++) {
      if (now.people.livesOf(person, now.dayIn(i)) != sheets.numberAt(sheet, i)) {
        return false;
      }
    }
    return true;
  }

  // ---- voices, sheets, images, what is told

  public int voice(int person, int voice, int x) {
    if (!now.people.knows(person) || !isWithin(voice, 0, Kinds.VOICES - 1)) {
      return error(BEYOND);
    }
    int sound = voices.speak(person, now.people, voice, x);
    return voices.parted ? error(PARTED) : sound;
  }

  public int body(int i) {
    if (!isWithin(i, 0, voices.trace.size - 1)) {
      return error(NONE);
    }
    return voices.trace.at[i];
  }

  public int sheet(int sheet, int bits, int n) {
    if (!Sheets.isSheet(sheet) || (bits != 0 && bits != 8 && bits != 16 && bits != 32)) {
      return error(BEYOND);
    }
    if (bits == 0) {
      sheets.renew(sheet, 0, 0);
      return 1;
    }
    if (n < 0) {
      return error(STATE);
    }
    if (n > MOST_NUMBERS) {
      return error(BEYOND);
    }
    sheets.renew(sheet, bits, n);
    return 1;
  }

  public int put(int sheet, int i, int v) {
    if (!Sheets.isSheet(sheet)) {
      return error(BEYOND);
    }
    if (sheets.isMissing(sheet)) {
      return error(NONE);
    }
    if (!isWithin(i, 0, sheets.sizes[sheet] - 1)) {
      return error(BEYOND);
    }
    sheets.setNumber(sheet, i, v);
    return 1;
  }

  public int move(int sheet, int i, int other, int j, int n) {
    if (!Sheets.isSheet(sheet) || !Sheets.isSheet(other)) {
      return error(BEYOND);
    }
    if (sheets.isMissing(sheet) || sheets.isMissing(other)) {
      return error(NONE);
    }
    if (sheets.bits[sheet] != sheets.bits[other]) {
      return error(KIND);
    }
    if (n < 0 || !sheets.stand(sheet, i, n) || !sheets.stand(other, j, n)) {
      return error(BEYOND);
    }
    sheets.copyNumbers(sheet, i, other, j, n);
    return n;
  }

  public int funds(int sheet) {
    if (!Sheets.isSheet(sheet)) {
      return error(BEYOND);
    }
    if (sheets.isMissing(sheet)) {
      return error(NONE);
    }
    int most = Math.min(sheets.sizes[sheet], now.people.size);
    for (int i = 0; i < most; i++) {
      int money = sheets.numberAt(sheet, i);
      if (!isWithin(money, 0, MOST)) {
        return i;
      }
      now.people.moneys[i] = money;
    }
    return most;
  }

  public int judge(int sheet) {
    if (!Sheets.isSheet(sheet)) {
      return error(BEYOND);
    }
    if (sheets.isMissing(sheet)) {
      return error(NONE);
    }
    int most = sheets.sizes[sheet];
    for (int i = 0; i < most; i++) {
      if (sheets.numberAt(sheet, i) != now.people.howManyUp(now.dayIn(i))) {
        return i;
      }
    }
    return most;
  }

  public int image() {
    image.copyFrom(now);
    images++;
    return images;
  }

  public int restore() {
    if (images == 0) {
      return error(NONE);
    }
    now.copyFrom(image);
    return now.today;
  }

  public int tell(int v) {
    if (now.waiting.size >= MOST_WAITING) {
      return error(FULL);
    }
    now.waiting.add(v);
    return now.waiting.size;
  }

  public int check() {
    int waited = now.waiting.size;
    now.waiting.size = 0;
    for (int i = 0; i < waited; i++) {
      if (!now.people.knows(i) || now.people.ages[i] != now.waiting.at[i]) {
        return 1 + i;
      }
    }
    return 0;
  }

  public int count(int what) {
    switch (what) {
      case 0:
        return now.people.size;
      case 1:
        return now.promises.size;
      case 2:
        return now.today;
      case 3:
        return now.meetings;
      case 4:
        return now.kept;
      case 5:
        return now.broken;
      case 6:
        return now.lonely;
      case 7:
        return now.promises.howManyUnkept(now.people);
      case 8:
        return now.tape.size;
      case 9:
        return now.waiting.size;
      case 10:
        return voices.trace.size;
      case 11:
        return now.z;
      default:
        return error(BEYOND);
    }
  }

  public int told(int k) {
    if (!isWithin(k, BEYOND, PARTED)) {
      return error(BEYOND);
    }
    return errors[k];
  }

  /** The KINDS: which is above which, what they LIVE, which BODIES they have. */
  private static final class Kinds {
    static final int PERSON = 0;
    static final int STUDENT = 1;
    static final int WIDOW = 2;
    static final int HEIR = 3;
    static final int TRUANT = 4;
    static final int MERRY = 5;
    static final int BAILIFF = 6;
    static final int HOW_MANY = 7;
    static final int VOICES = 4;

    private static final int[] ABOVE = {PERSON, PERSON, PERSON, PERSON, STUDENT, WIDOW, PERSON};
    private static final int[] BODIES = {
      10, 11, 12, 13,
      20, 0, 0, 21,
      0, 30, 0, 0,
      0, 0, 40, 0,
      50, 0, 51, 0,
      0, 60, 0, 0,
      70, 71, 0, 0
    };

    static boolean isKind(int kind) {
      return kind >= 0 && kind < HOW_MANY;
    }

    static boolean isKindAndNumber(int km) {
      return km >= 0 && km < HOW_MANY * 10;
    }

    static int above(int kind) {
      return isKind(kind) ? ABOVE[kind] : PERSON;
    }

    static boolean isUnder(int kind, int upper) {
      int at = kind;
      for (int i = 0; i < HOW_MANY && at != upper; i++) {
        at = above(at);
      }
      return at == upper;
    }

    /** The KIND whose BODY speaks: PERSON has one of every voice, so there always is one. */
    static int speaker(int kind, int voice) {
      int at = kind;
      for (int i = 0; i < HOW_MANY && bodyOf(at, voice) == 0; i++) {
        at = above(at);
      }
      return at;
    }

    static int bodyOf(int kind, int voice) {
      return isKind(kind) && voice >= 0 && voice < VOICES ? BODIES[kind * VOICES + voice] : 0;
    }

    static int lives(int kind, int m, int times, int weekday) {
      int asStudent = weekday == m % WEEK ? 0 : times;
      int asWidow = times > 1 ? times + 1 : times;
      switch (kind) {
        case STUDENT:
          return asStudent;
        case WIDOW:
          return asWidow;
        case HEIR:
          return (times + 1) / 2;
        case TRUANT:
          return weekday == (m + 1) % WEEK ? asStudent * 2 : asStudent;
        case MERRY:
          return weekday > 4 ? asWidow + m : asWidow;
        case BAILIFF:
          return 1;
        default:
          return times;
      }
    }
  }

  /** A row of numbers that grows up to its bound. */
  private static final class Row {
    final int[] at;
    int size;

    Row(int most) {
      at = new int[most];
      size = 0;
    }

    /** What comes to a full row is dropped: THE TRACE wants just its first ones. */
    void add(int v) {
      if (size < at.length) {
        at[size] = v;
        size++;
      }
    }

    void copyFrom(Row other) {
      size = Math.min(other.size, at.length);
      System.arraycopy(other.at, 0, at, 0, size);
    }
  }

  /** PEOPLE; how often one HAS a DAY stands in one row for all, 28 numbers for each. */
  private static final class People {
    final int[] kinds = new int[MOST_PEOPLE];
    final int[] numbers = new int[MOST_PEOPLE];
    final int[] ages = new int[MOST_PEOPLE];
    final int[] moneys = new int[MOST_PEOPLE];
    final int[] times = new int[MOST_PEOPLE * DAYS];
    int size = 0;

    boolean knows(int person) {
      return person >= 0 && person < size;
    }

    boolean areTwo(int person, int other) {
      return knows(person) && knows(other) && person != other;
    }

    int join(int km) {
      int person = size;
      size++;
      setKind(person, km);
      ages[person] = 0;
      moneys[person] = 100;
      for (int day = 0; day < DAYS; day++) {
        setTimes(person, day, 1);
      }
      return person;
    }

    void setKind(int person, int km) {
      kinds[person] = km / 10;
      numbers[person] = km % 10;
    }

    int timesOf(int person, int day) {
      return times[person * DAYS + day];
    }

    void setTimes(int person, int day, int v) {
      times[person * DAYS + day] = v;
    }

    int livesOf(int person, int day) {
      return Kinds.lives(kinds[person], numbers[person], timesOf(person, day), day % WEEK);
    }

    boolean isUpIfHad(int person, int day, int often) {
      return Kinds.lives(kinds[person], numbers[person], often, day % WEEK) > 0;
    }

    boolean isUp(int person, int day) {
      return livesOf(person, day) > 0;
    }

    int howManyUp(int day) {
      int up = 0;
      for (int person = 0; person < size; person++) {
        if (isUp(person, day)) {
          up++;
        }
      }
      return up;
    }

    /** The DAYS on which one is UP, as bits. */
    int upDays(int person) {
      int set = 0;
      for (int day = 0; day < DAYS; day++) {
        if (livesOf(person, day) > 0) {
          set |= 1 << day;
        }
      }
      return set;
    }

    int howManyDays(int person) {
      int many = 0;
      for (int day = 0; day < DAYS; day++) {
        if (timesOf(person, day) > 0) {
          many++;
        }
      }
      return many;
    }

    void copyFrom(People other) {
      size = other.size;
      System.arraycopy(other.kinds, 0, kinds, 0, MOST_PEOPLE);
      System.arraycopy(other.numbers, 0, numbers, 0, MOST_PEOPLE);
      System.arraycopy(other.ages, 0, ages, 0, MOST_PEOPLE);
      System.arraycopy(other.moneys, 0, moneys, 0, MOST_PEOPLE);
      System.arraycopy(other.times, 0, times, 0, MOST_PEOPLE * DAYS);
    }
  }

  /** PROMISES: who gave one to whom, for which DAY. */
  private static final class Promises {
    final int[] givers = new int[MOST_PROMISES];
    final int[] takers = new int[MOST_PROMISES];
    final int[] dates = new int[MOST_PROMISES];
    int size = 0;

    int join(int giver, int taker, int day) {
      int promise = size;
      size++;
      givers[promise] = giver;
      takers[promise] = taker;
      dates[promise] = day;
      return promise;
    }

    boolean isOf(int promise, int person) {
      return givers[promise] == person || takers[promise] == person;
    }

    boolean isKept(int promise, People people) {
      int day = dates[promise];
      return people.isUp(givers[promise], day) && people.isUp(takers[promise], day);
    }

    int howManyUnkept(People people) {
      int many = 0;
      for (int promise = 0; promise < size; promise++) {
        if (!isKept(promise, people)) {
          many++;
        }
      }
      return many;
    }

    void copyFrom(Promises other) {
      size = other.size;
      System.arraycopy(other.givers, 0, givers, 0, MOST_PROMISES);
      System.arraycopy(other.takers, 0, takers, 0, MOST_PROMISES);
      System.arraycopy(other.dates, 0, dates, 0, MOST_PROMISES);
    }
  }

  /**
   * A TEXT as steps, each behind what it works on: a NUMBER as it is, a NAME from NAME on, a sign
   * as SIGN and its byte. There is no TEXT without a step, so no steps say that there is none.
   */
  private static final class Text {
    static final int NAME = 10000;
    static final int SIGN = 20000;

    final Row steps = new Row(MOST_BYTES);
    private final int[] stack = new int[MOST_BYTES];

    boolean isThere() {
      return steps.size > 0;
    }

    int gives(int a, int b, int c) {
      int top = 0;
      for (int i = 0; i < steps.size; i++) {
        int step = steps.at[i];
        if (step < SIGN && top < stack.length) {
          stack[top] = operand(step, a, b, c);
          top++;
        } else if (step == SIGN + '!' && top > 0) {
          stack[top - 1] = stack[top - 1] == 0 ? 1 : 0;
        } else if (top > 1) {
          top--;
          stack[top - 1] = joined(step - SIGN, stack[top - 1], stack[top]);
        }
      }
      return stack[0];
    }

    private static int operand(int step, int a, int b, int c) {
      switch (step) {
        case NAME:
          return a;
        case NAME + 1:
          return b;
        case NAME + 2:
          return c;
        default:
          return step;
      }
    }

    private static int joined(int sign, int left, int right) {
      switch (sign) {
        case '|':
          return left != 0 || right != 0 ? 1 : 0;
        case '&':
          return left != 0 && right != 0 ? 1 : 0;
        case '<':
          return left < right ? 1 : 0;
        case '=':
          return left == right ? 1 : 0;
        case '>':
          return left > right ? 1 : 0;
        case '+':
          return left + right;
        case '-':
          return left - right;
        case '*':
          return left * right;
        case '/':
          return right == 0 ? 0 : left / right;
        case '%':
          return right == 0 ? 0 : left % right;
        default:
          return 0;
      }
    }
  }

  /**
   * Reads THE TAPE into steps. Of each byte that it takes some TEXT goes on, so the first one that
   * it can't take is the FAULT; behind one it takes nothing more.
   */
  private static final class Reader {
    private static final char[] NAMES = {'d', 'w', 'h', 'a', 't', 'm'};
    private static final int NAMES_OF_USE = 3;
    private static final int MOST_OPEN = 5;
    private static final int MOST_DIGITS = 4;
    private static final int COMPARING = 2;
    private static final int LEVELS = 5;
    private static final int NO_FAULT = -1;

    final Row steps = new Row(MOST_BYTES);
    private final Row tape = new Row(MOST_BYTES);
    private int use = 0;
    private int place = 0;
    private int fault = NO_FAULT;

    /** The FAULT of what stands on a tape, or -1: then its steps stand in steps. */
    int faultOf(Row bytes, int forUse) {
      tape.copyFrom(bytes);
      use = forUse;
      place = 0;
      fault = NO_FAULT;
      steps.size = 0;
      readLevel(0, 0);
      if (place < tape.size) {
        stopHere();
      }
      return fault;
    }

    /** T, A, B, S, P are levels 0 .. 4: parts of the next level, with signs of this one between. */
    private void readLevel(int level, int open) {
      if (level >= LEVELS) {
        readQ(open);
        return;
      }
      readLevel(level + 1, open);
      int mostSigns = level == COMPARING ? 1 : MOST_BYTES;
      for (int i = 0; i < mostSigns && isSignOf(level, here()); i++) {
        int sign = here();
        place++;
        readLevel(level + 1, open);
        steps.add(Text.SIGN + sign);
      }
    }

    private void readQ(int open) {
      int name = nameHere();
      if (isDigit(here())) {
        readNumber();
      } else if (name >= 0) {
        place++;
        steps.add(Text.NAME + name);
      } else if (here() == '!' && open < MOST_OPEN) {
        place++;
        readQ(open + 1);
        steps.add(Text.SIGN + '!');
      } else if (here() == '(' && open < MOST_OPEN) {
        place++;
        readLevel(0, open + 1);
        readClosing();
      } else {
        stopHere();
      }
    }

    private void readNumber() {
      int number = 0;
      for (int i = 0; i < MOST_DIGITS && isDigit(here()); i++) {
        number = number * 10 + here() - '0';
        place++;
      }
      steps.add(number);
    }

    private void readClosing() {
      if (here() == ')') {
        place++;
      } else {
        stopHere();
      }
    }

    private void stopHere() {
      if (fault == NO_FAULT) {
        fault = place;
      }
    }

    /** The byte that is next, -1 if there is none: none goes on behind a FAULT. */
    private int here() {
      return fault == NO_FAULT && place < tape.size ? tape.at[place] : -1;
    }

    private int nameHere() {
      for (int i = 0; i < NAMES_OF_USE; i++) {
        if (NAMES[use * NAMES_OF_USE + i] == here()) {
          return i;
        }
      }
      return -1;
    }

    private static boolean isDigit(int b) {
      return b >= '0' && b <= '9';
    }

    private static boolean isSignOf(int level, int b) {
      switch (level) {
        case 0:
          return b == '|';
        case 1:
          return b == '&';
        case COMPARING:
          return b == '<' || b == '=' || b == '>';
        case 3:
          return b == '+' || b == '-';
        default:
          return b == '*' || b == '/' || b == '%';
      }
    }
  }

  /** All that an IMAGE keeps. */
  private static final class World {
    final People people = new People();
    final Promises promises = new Promises();
    final Text priceText = new Text();
    final Text duesText = new Text();
    final Row tape = new Row(MOST_BYTES);
    final Row waiting = new Row(MOST_WAITING);
    int today = 0;
    int meetings = 0;
    int kept = 0;
    int broken = 0;
    int lonely = 0;
    int z = 1;

    int dayIn(int n) {
      return (today + n) % DAYS;
    }

    Text textOf(int use) {
      return use == PRICE ? priceText : duesText;
    }

    int useGives(int use, int a, int b, int c) {
      if (use == PRICE) {
        int usual = b > 4 ? 15 : 10;
        return priceText.isThere() ? held(priceText.gives(a, b, c), 999) : usual;
      }
      return duesText.isThere() ? held(duesText.gives(a, b, c), 99) : 0;
    }

    private static int held(int v, int most) {
      return Math.max(0, Math.min(most, v));
    }

    int priceOf(int person, int day) {
      return useGives(PRICE, day, day % WEEK, people.timesOf(person, day));
    }

    boolean saleCanBe(int from, int to, int day) {
      return dayCanPass(from, to, day) && canPay(from, to, priceOf(from, day));
    }

    private boolean dayCanPass(int from, int to, int day) {
      return people.timesOf(from, day) > 0 && people.timesOf(to, day) < MOST_TIMES;
    }

    private boolean canPay(int from, int to, int price) {
      return people.moneys[to] >= price && people.moneys[from] + price <= MOST;
    }

    /** PRICES are never below 0: whom the whole week leaves within bounds, each of its DAYS does. */
    boolean weekCanBe(int from, int to, int week) {
      int together = 0;
      for (int day = week * WEEK; day < (week + 1) * WEEK; day++) {
        if (!dayCanPass(from, to, day)) {
          return false;
        }
        together += priceOf(from, day);
      }
      return canPay(from, to, together);
    }

    int makeSale(int from, int to, int day) {
      int price = priceOf(from, day);
      people.moneys[to] -= price;
      people.moneys[from] += price;
      people.setTimes(from, day, people.timesOf(from, day) - 1);
      people.setTimes(to, day, people.timesOf(to, day) + 1);
      return price;
    }

    /** 1 if there was a SALE, else 0; the draws are made in either case. */
    int saleByDraws() {
      if (people.size < 2) {
        return 0;
      }
      int from = draw() % people.size;
      int to = draw() % people.size;
      int day = draw() % DAYS;
      if (from == to || !saleCanBe(from, to, day)) {
        return 0;
      }
      makeSale(from, to, day);
      return 1;
    }

    private int draw() {
      z = z * 1103515245 + 12345;
      return z >>> 8;
    }

    /** How many were UP. */
    int letDayGo() {
      int day = dayIn(0);
      int up = 0;
      for (int person = 0; person < people.size; person++) {
        int lives = people.livesOf(person, day);
        if (lives > 0) {
          up++;
          letOneLive(person, day, lives);
        }
      }
      settlePromises(day);
      if (up == 0) {
        lonely = oneMore(lonely);
      }
      today++;
      return up;
    }

    private void letOneLive(int person, int day, int lives) {
      int age = people.ages[person];
      int money = people.moneys[person];
      int dues = useGives(DUES, age, today, money);
      people.ages[person] = older(age, lives);
      people.moneys[person] = poorer(money, dues);
      if (people.timesOf(person, day) > 1) {
        meetings = oneMore(meetings);
      }
    }

    private void settlePromises(int day) {
      for (int promise = 0; promise < promises.size; promise++) {
        if (promises.dates[promise] != day) {
          continue;
        }
        if (promises.isKept(promise, people)) {
          kept = oneMore(kept);
        } else {
          broken = oneMore(broken);
        }
      }
    }

    static int older(int age, int lives) {
      return Math.min(MOST, age + lives);
    }

    static int poorer(int money, int dues) {
      return Math.max(0, money - dues);
    }

    private static int oneMore(int v) {
      return Math.min(MOST, v + 1);
    }

    void copyFrom(World other) {
      people.copyFrom(other.people);
      promises.copyFrom(other.promises);
      priceText.steps.copyFrom(other.priceText.steps);
      duesText.steps.copyFrom(other.duesText.steps);
      tape.copyFrom(other.tape);
      waiting.copyFrom(other.waiting);
      today = other.today;
      meetings = other.meetings;
      kept = other.kept;
      broken = other.broken;
      lonely = other.lonely;
      z = other.z;
    }
  }

  /** What is only thought, where it wants rows of its own. Sets of DAYS and of PEOPLE are bits. */
  private static final class Thoughts {
    private static final int ALL_DAYS = (1 << DAYS) - 1;
    private static final int NO_DAY = -1;

    private final int[] upDays = new int[MOST_PEOPLE];
    private final int[] prices = new int[DAYS];
    private final int[] harms = new int[DAYS];

    /** A set of KEEPERS, or 0: sets rise, so the first of the fewest is the least. */
    int fewestKeepers(People people) {
      for (int person = 0; person < people.size; person++) {
        upDays[person] = people.upDays(person);
      }
      int best = 0;
      for (int set = 1; set < 1 << people.size; set++) {
        boolean isFewer = best == 0 || Integer.bitCount(set) < Integer.bitCount(best);
        if (isFewer && daysKeptBy(set) == ALL_DAYS) {
          best = set;
        }
      }
      return best;
    }

    private int daysKeptBy(int set) {
      int days = 0;
      for (int person = 0; person < MOST_PEOPLE; person++) {
        if ((set >> person & 1) == 1) {
          days |= upDays[person];
        }
      }
      return days;
    }

    int howManyBought(World world, int from, int to) {
      int left = 0;
      for (int day = 0; day < DAYS; day++) {
        prices[day] = world.priceOf(from, day);
        harms[day] = 0;
        if (world.people.timesOf(from, day) > 0 && world.people.timesOf(to, day) < MOST_TIMES) {
          left |= 1 << day;
        }
      }
      int money = world.people.moneys[to];
      int bought = 0;
      for (int i = 0; i < DAYS; i++) {
        int day = leastOf(left);
        if (day == NO_DAY || prices[day] > money) {
          return bought;
        }
        left &= ~(1 << day);
        money -= prices[day];
        bought++;
      }
      return bought;
    }

    /**
     * Harms of unlike DAYS only add up, and so do PRICES: so the best set is the n best DAYS, and
     * among like ones the first DAYS make the first rising row.
     */
    int takenByBailiffs(World world, int person, int n) {
      int left = 0;
      for (int day = 0; day < DAYS; day++) {
        prices[day] = world.priceOf(person, day);
        harms[day] = harmOf(world, person, day);
        if (world.people.timesOf(person, day) > 0) {
          left |= 1 << day;
        }
      }
      int taken = 0;
      for (int i = 0; i < n; i++) {
        int day = leastOf(left & ~taken);
        if (day != NO_DAY) {
          taken |= 1 << day;
        }
      }
      return taken;
    }

    /** How many PROMISES more aren't KEPT, if somebody HAS a DAY once less. */
    private static int harmOf(World world, int person, int day) {
      int often = world.people.timesOf(person, day);
      if (world.people.isUpIfHad(person, day, often - 1)) {
        return 0;
      }
      Promises promises = world.promises;
      int harm = 0;
      for (int promise = 0; promise < promises.size; promise++) {
        boolean isTouched = promises.dates[promise] == day && promises.isOf(promise, person);
        if (isTouched && promises.isKept(promise, world.people)) {
          harm++;
        }
      }
      return harm;
    }

    /** The first DAY of a set with the least harm, and of these with the least PRICE. */
    private int leastOf(int set) {
      int best = NO_DAY;
      for (int day = 0; day < DAYS; day++) {
        if ((set >> day & 1) == 1 && (best == NO_DAY || isLess(day, best))) {
          best = day;
        }
      }
      return best;
    }

    private boolean isLess(int day, int than) {
      if (harms[day] != harms[than]) {
        return harms[day] < harms[than];
      }
      return prices[day] < prices[than];
    }

    int pricesOf(int set) {
      return sumOver(set, prices);
    }

    int harmsOf(int set) {
      return sumOver(set, harms);
    }

    private static int sumOver(int set, int[] row) {
      int sum = 0;
      for (int day = 0; day < DAYS; day++) {
        if ((set >> day & 1) == 1) {
          sum += row[day];
        }
      }
      return sum;
    }

    /** The DAY of a set ahead of which so many others of it stand. */
    static int memberOf(int set, int ahead) {
      int left = ahead;
      for (int day = 0; day < DAYS; day++) {
        if ((set >> day & 1) == 1) {
          if (left == 0) {
            return day;
          }
          left--;
        }
      }
      return NO_DAY;
    }

    /** The largest number that divides both v and 28. */
    static int commonDivisor(int v) {
      for (int by = DAYS; by > 1; by--) {
        if (DAYS % by == 0 && v % by == 0) {
          return by;
        }
      }
      return 1;
    }
  }

  /** VOICES, and THE TRACE of the latest one. */
  private static final class Voices {
    private static final int YAWNS = 0;
    private static final int TRADES = 1;
    private static final int AGES = 2;
    private static final int PARTS = 3;
    private static final int DEEPEST = 12;

    final Row trace = new Row(MOST_TRACED);
    boolean parted = false;
    private int kind = 0;
    private int k = 0;
    private int m = 0;

    /** What a voice of somebody is, if parted doesn't say otherwise then. */
    int speak(int person, People people, int voice, int x) {
      trace.size = 0;
      parted = false;
      kind = people.kinds[person];
      k = person;
      m = people.numbers[person];
      return own(voice, x, 0);
    }

    /** A voice as the one who speaks has it: yawns(..), not super.yawns(..). */
    private int own(int voice, int x, int depth) {
      return sound(kind, voice, x, depth);
    }

    private int sound(int from, int voice, int x, int depth) {
      if (depth > DEEPEST) {
        return 0;
      }
      int speaker = Kinds.speaker(from, voice);
      int above = Kinds.above(speaker);
      int body = Kinds.bodyOf(speaker, voice);
      int next = depth + 1;
      trace.add(body);
      switch (body) {
        case 10:
          return x + k;
        case 11:
          return own(YAWNS, x, next) * 2;
        case 12:
          return own(TRADES, x, next) - m;
        case 13:
          return part(x, m - k);
        case 20:
          return sound(above, YAWNS, x, next) - 4;
        case 21:
          return partAndTrade(above, x, next);
        case 30:
          return 0 - sound(above, TRADES, x, next);
        case 40:
          return sound(above, AGES, x / 2, next);
        case 50:
          return sound(above, YAWNS, x, next) * 3;
        case 51:
          return sound(above, AGES, x, next) ^ k;
        case 60:
          return sound(above, TRADES, x + 1, next);
        case 70:
          return 9;
        case 71:
          return sound(above, TRADES, x, next) + m;
        default:
          return 0;
      }
    }

    /** One who parted says nothing more: what stands behind it never begins. */
    private int partAndTrade(int above, int x, int depth) {
      int share = sound(above, PARTS, x, depth);
      return parted ? 0 : share + own(TRADES, 1, depth);
    }

    private int part(int x, int by) {
      if (by == 0) {
        parted = true;
        return 0;
      }
      return x / by;
    }
  }

  /** SHEETS: the numbers of all stand in one row, 24 for each; one of 0 bits is missing. */
  private static final class Sheets {
    final int[] bits = new int[MOST_SHEETS];
    final int[] sizes = new int[MOST_SHEETS];
    private final int[] numbers = new int[MOST_SHEETS * MOST_NUMBERS];

    static boolean isSheet(int sheet) {
      return sheet >= 0 && sheet < MOST_SHEETS;
    }

    boolean isMissing(int sheet) {
      return bits[sheet] == 0;
    }

    void renew(int sheet, int ofBits, int n) {
      bits[sheet] = ofBits;
      sizes[sheet] = n;
      for (int i = 0; i < MOST_NUMBERS; i++) {
        numbers[sheet * MOST_NUMBERS + i] = 0;
      }
    }

    int numberAt(int sheet, int i) {
      return numbers[sheet * MOST_NUMBERS + i];
    }

    /** Numbers of 8 and 16 bits have a sign, as those of 32 bits do. */
    void setNumber(int sheet, int i, int v) {
      int lowest = bits[sheet] == 8 ? (byte) v : bits[sheet] == 16 ? (short) v : v;
      numbers[sheet * MOST_NUMBERS + i] = lowest;
    }

    boolean stand(int sheet, int i, int n) {
      return i >= 0 && n <= sizes[sheet] && i <= sizes[sheet] - n;
    }

    void copyNumbers(int sheet, int i, int other, int j, int n) {
      int from = sheet * MOST_NUMBERS + i;
      int to = other * MOST_NUMBERS + j;
      System.arraycopy(numbers, from, numbers, to, n);
    }
  }
}
