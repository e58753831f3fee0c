import java.util.Random;

/** Long runs of calls by chance (always the same ones), each answer against that of the Model. */
final class ModelTest {
  private static final String SIGNS = "0123456789dwhatm+-*/%|&<=>!()";
  private static final int RUNS = 800;
  private static final int MOST_CALLS = 512;
  private static final int MOST_AT_ONCE = 64;

  private final Random chance;
  private SoldDays x;
  private Model y;
  private int calls = 0;

  private ModelTest(int seed) {
    chance = new Random(seed);
  }

  public static void main(String[] args) {
    for (int seed = 0; seed < RUNS; seed++) {
      new ModelTest(seed).run(seed);
    }
    Due.end();
  }

  private void run(int seed) {
    x = new SoldDays();
    y = new Model();
    while (calls + MOST_AT_ONCE <= MOST_CALLS) {
      oneCall("run " + seed + ", near call " + calls + ": ", chance.nextInt(46));
    }
  }

  private int upTo(int most) {
    return chance.nextInt(most + 1);
  }

  /** Mostly 0 to most; now and then just outside, or far out. */
  private int about(int most) {
    int odd = chance.nextInt(60);
    if (odd == 0) {
      return -1;
    }
    if (odd == 1) {
      return most + 1;
    }
    if (odd == 2) {
      int[] far = {Integer.MIN_VALUE, Integer.MAX_VALUE, -1000000000, 1000000, -2};
      return far[chance.nextInt(far.length)];
    }
    return upTo(most);
  }

  private int who() {
    return about(Math.min(5, Math.max(1, y.count(0) - (chance.nextInt(9) == 0 ? 0 : 1))));
  }

  private int any() {
    switch (chance.nextInt(4)) {
      case 0:
        return chance.nextInt();
      case 1:
        return chance.nextInt(20) - 10;
      case 2:
        return chance.nextInt(20001) - 5000;
      default:
        return 1 << chance.nextInt(32);
    }
  }

  private int small() {
    return chance.nextInt(12) == 0 ? any() : chance.nextInt(4);
  }

  private void same(String call, int got, Model.Act act) {
    calls++;
    Due.due(call, got, y.act(act));
  }

  private void oneCall(String at, int which) {
    if (which < 23) {
      peopleCall(at, which);
    } else {
      otherCall(at, which);
    }
  }

  private void peopleCall(String at, int which) {
    int p = who();
    int o = who();
    int day = about(27);
    int v = about(9);
    switch (which) {
      case 0:
        int km = about(69);
        same(at + "person(" + km + ")", x.person(km), () -> y.person(km));
        break;
      case 1:
        int is = about(4);
        same(at + "personIs(" + p + ", " + is + ")", x.personIs(p, is), () -> y.personIs(p, is));
        break;
      case 2:
        int to = about(69);
        same(at + "become(" + p + ", " + to + ")", x.become(p, to), () -> y.become(p, to));
        break;
      case 3:
        int kind = about(6);
        same(at + "as(" + p + ", " + kind + ")", x.as(p, kind), () -> y.as(p, kind));
        break;
      case 4:
        int what = about(1);
        int number = chance.nextInt(3) == 0 ? about(300) : about(9999);
        same(at + "change(" + p + ", " + what + ", " + number + ")", x.change(p, what, number), () -> y.change(p, what, number));
        break;
      case 5:
        same(at + "has(" + p + ", " + day + ")", x.has(p, day), () -> y.has(p, day));
        break;
      case 6: case 7: case 8:
        int often = chance.nextInt(3) == 0 ? v : chance.nextInt(3);
        same(at + "give(" + p + ", " + day + ", " + often + ")", x.give(p, day, often), () -> y.give(p, day, often));
        break;
      case 9:
        same(at + "price(" + p + ", " + day + ")", x.price(p, day), () -> y.price(p, day));
        break;
      case 10: case 11:
        same(at + "sell(" + p + ", " + o + ", " + day + ")", x.sell(p, o, day), () -> y.sell(p, o, day));
        break;
      case 12:
        int week = about(3);
        same(at + "sellWeek(" + p + ", " + o + ", " + week + ")", x.sellWeek(p, o, week), () -> y.sellWeek(p, o, week));
        break;
      case 13:
        same(at + "promise(" + p + ", " + o + ", " + day + ")", x.promise(p, o, day), () -> y.promise(p, o, day));
        break;
      case 14:
        int promise = about(7);
        int part = about(3);
        same(at + "promiseIs(" + promise + ", " + part + ")", x.promiseIs(promise, part), () -> y.promiseIs(promise, part));
        break;
      case 15:
        emptyDays(at, p);
        break;
      default:
        thoughtCall(at, which, p, o);
        break;
    }
  }

  /** So that there are days without anybody, promises that break, bailiffs with nothing to take. */
  private void emptyDays(String at, int p) {
    if (chance.nextInt(6) != 0) {
      return;
    }
    for (int day = 0; day < 28; day++) {
      int the = day;
      if (chance.nextInt(3) != 0) {
        same(at + "give(" + p + ", " + the + ", 0)", x.give(p, the, 0), () -> y.give(p, the, 0));
      }
    }
  }

  private void thoughtCall(String at, int which, int p, int o) {
    int n = about(100);
    int part = about(1);
    switch (which) {
      case 16:
        same(at + "then(" + n + ", " + p + ", " + part + ")", x.then(n, p, part), () -> y.then(n, p, part));
        break;
      case 17:
        int many = about(61);
        same(at + "alone(" + many + ")", x.alone(many), () -> y.alone(many));
        break;
      case 18:
        same(at + "meet(" + p + ", " + o + ")", x.meet(p, o), () -> y.meet(p, o));
        break;
      case 19:
        same(at + "keepers(" + part + ")", x.keepers(part), () -> y.keepers(part));
        break;
      case 20:
        same(at + "buys(" + p + ", " + o + ")", x.buys(p, o), () -> y.buys(p, o));
        break;
      case 21:
        int days = about(3);
        int what = about(4) - 2;
        same(at + "bailiffs(" + p + ", " + days + ", " + what + ")", x.bailiffs(p, days, what), () -> y.bailiffs(p, days, what));
        break;
      default:
        same(at + "odds(" + p + ", " + part + ")", x.odds(p, part), () -> y.odds(p, part));
        break;
    }
  }

  private void otherCall(String at, int which) {
    int use = about(1);
    int p = who();
    int a = any();
    switch (which) {
      case 23: case 24: case 25:
        writeText(at, use);
        break;
      case 26:
        long word = chance.nextLong();
        int bytes = about(8);
        same(at + "feed(" + word + ", " + bytes + ")", x.feed(word, bytes), () -> y.feed(word, bytes));
        break;
      case 27:
        if (chance.nextInt(4) == 0) {
          same(at + "untell(" + use + ")", x.untell(use), () -> y.untell(use));
        }
        break;
      case 28:
        int b = any();
        int c = any();
        same(at + "law(" + use + ", " + a + ", " + b + ", " + c + ")", x.law(use, a, b, c), () -> y.law(use, a, b, c));
        break;
      case 29: case 30:
        int n = chance.nextInt(3) == 0 ? about(61) : 1 + upTo(3);
        same(at + "days(" + n + ")", x.days(n), () -> y.days(n));
        break;
      case 31:
        int loose = about(41);
        same(at + "loose(" + loose + ")", x.loose(loose), () -> y.loose(loose));
        break;
      case 32:
        same(at + "seed(" + a + ")", x.seed(a), () -> y.seed(a));
        break;
      case 33: case 34:
        int voice = about(3);
        same(at + "voice(" + p + ", " + voice + ", " + a + ")", x.voice(p, voice, a), () -> y.voice(p, voice, a));
        break;
      case 35:
        int i = about(9);
        same(at + "body(" + i + ")", x.body(i), () -> y.body(i));
        break;
      default:
        sheetCall(at, which);
        break;
    }
  }

  private void sheetCall(String at, int which) {
    int s = about(3);
    int o = about(3);
    int i = about(chance.nextInt(3) == 0 ? 23 : 3);
    switch (which) {
      case 36:
        int bits = chance.nextInt(9) == 0 ? any() : 8 * new int[] {0, 1, 2, 4, 1}[chance.nextInt(5)];
        int size = chance.nextInt(3) == 0 ? about(24) : upTo(6);
        same(at + "sheet(" + s + ", " + bits + ", " + size + ")", x.sheet(s, bits, size), () -> y.sheet(s, bits, size));
        break;
      case 37: case 38: case 39:
        int v = small();
        same(at + "put(" + s + ", " + i + ", " + v + ")", x.put(s, i, v), () -> y.put(s, i, v));
        break;
      case 40:
        int j = about(3);
        int n = about(4);
        same(at + "move(" + s + ", " + i + ", " + o + ", " + j + ", " + n + ")", x.move(s, i, o, j, n), () -> y.move(s, i, o, j, n));
        break;
      case 41:
        same(at + "funds(" + s + ")", x.funds(s), () -> y.funds(s));
        break;
      case 42:
        tellingSheet(at, s);
        same(at + "judge(" + s + ")", x.judge(s), () -> y.judge(s));
        same(at + "fits(" + s + ")", x.fits(s), () -> y.fits(s));
        break;
      case 43:
        imageCall(at);
        break;
      case 44:
        waitingCall(at);
        break;
      default:
        int what = about(11);
        same(at + "count(" + what + ")", x.count(what), () -> y.count(what));
        int k = about(6);
        same(at + "told(" + k + ")", x.told(k), () -> y.told(k));
        break;
    }
  }

  /** Puts what somebody LIVES, or how many are UP, on a sheet, mostly right. */
  private void tellingSheet(String at, int s) {
    if (y.count(0) == 0 || chance.nextInt(2) == 0) {
      return;
    }
    int p = chance.nextInt(y.count(0));
    int today = y.count(2);
    boolean isOfOne = chance.nextBoolean();
    for (int i = 0; i < 24; i++) {
      int up = 0;
      for (int q = 0; q < y.count(0); q++) {
        up += y.has(q, (today + i) % 28) > 0 ? 1 : 0;
      }
      int v = isOfOne ? y.has(p, (today + i) % 28) : up;
      int at0 = i;
      same(at + "put(" + s + ", " + i + ", " + v + ")", x.put(s, i, v), () -> y.put(s, at0, v));
    }
  }

  private void imageCall(String at) {
    if (chance.nextInt(3) == 0) {
      same(at + "image()", x.image(), () -> y.image());
    } else {
      same(at + "restore()", x.restore(), () -> y.restore());
    }
  }

  private void waitingCall(String at) {
    int most = chance.nextInt(20) == 0 ? 26 : upTo(Math.max(1, y.count(0)));
    for (int i = 0; i < most; i++) {
      int v = i < y.count(0) && chance.nextInt(8) != 0 ? y.personIs(i, 2) : any();
      same(at + "tell(" + v + ")", x.tell(v), () -> y.tell(v));
    }
    if (chance.nextInt(4) != 0) {
      same(at + "check()", x.check(), () -> y.check());
    }
  }

  private void writeText(String at, int use) {
    if (chance.nextInt(3) != 0) {
      String signs = chance.nextInt(4) == 0 ? noise() : spoilt(grown(use == 1 ? "atm" : "dwh", 4));
      for (int i = 0; i < Math.min(62, signs.length()); i++) {
        char sign = signs.charAt(i);
        same(at + "feed(" + sign + ")", x.feed(sign, 1), () -> y.feed(sign, 1));
      }
    }
    same(at + "text(" + use + ")", x.text(use), () -> y.text(use));
  }

  private String noise() {
    StringBuilder signs = new StringBuilder();
    int n = chance.nextInt(20);
    for (int i = 0; i < n; i++) {
      signs.append(SIGNS.charAt(chance.nextInt(SIGNS.length())));
    }
    return signs.toString();
  }

  private String grown(String names, int depth) {
    int way = depth == 0 ? chance.nextInt(2) : chance.nextInt(9);
    switch (way) {
      case 0:
        return "" + names.charAt(chance.nextInt(3));
      case 1:
        return "" + chance.nextInt(chance.nextBoolean() ? 10 : 1500);
      case 2:
        return "!" + grown(names, depth - 1);
      case 3:
        return "(" + grown(names, depth - 1) + ")";
      default:
        String all = "|&<=>+-*/%";
        return grown(names, depth - 1) + all.charAt(chance.nextInt(all.length())) + grown(names, depth - 1);
    }
  }

  private String spoilt(String signs) {
    if (chance.nextInt(3) != 0 || signs.isEmpty()) {
      return signs;
    }
    int place = chance.nextInt(signs.length());
    char sign = SIGNS.charAt(chance.nextInt(SIGNS.length()));
    return signs.substring(0, place) + sign + signs.substring(place + chance.nextInt(2));
  }
}
