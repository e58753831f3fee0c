import java.util.ArrayList;
import java.util.List;

/**
 * The document once more, worked out in other ways than the program does, and slowly: KINDS are
 * classes, ERRORS are thrown, sets and days are all tried, texts are split where they join.
 */
final class Model {
  static final class Refusal extends RuntimeException {
    private static final long serialVersionUID = 1L;
    final int k;

    Refusal(int k) {
      super(null, null, false, false);
      this.k = k;
    }
  }

  static final int BEYOND = 1;
  static final int NONE = 2;
  static final int STATE = 3;
  static final int FULL = 4;
  static final int KIND = 5;
  static final int PARTED = 6;

  static final class Soul {
    int age;
    int money = 100;
    int[] has = new int[28];
    Kind kind;
  }

  static class Kind {
    int m;
    int k;

    int id() {
      return 0;
    }

    int lives(int has, int day) {
      return has;
    }

    int yawns(List<Integer> t, int x) {
      t.add(10);
      return x + k;
    }

    int trades(List<Integer> t, int x) {
      t.add(11);
      return yawns(t, x) * 2;
    }

    int ages(List<Integer> t, int x) {
      t.add(12);
      return trades(t, x) - m;
    }

    int parts(List<Integer> t, int x) {
      t.add(13);
      if (m == k) {
        throw new Refusal(PARTED);
      }
      return x / (m - k);
    }
  }

  static class Student extends Kind {
    int id() {
      return 1;
    }

    int lives(int has, int day) {
      return (day - m + 700) % 7 == 0 ? 0 : super.lives(has, day);
    }

    int yawns(List<Integer> t, int x) {
      t.add(20);
      return super.yawns(t, x) - 4;
    }

    int parts(List<Integer> t, int x) {
      t.add(21);
      int first = super.parts(t, x);
      return first + trades(t, 1);
    }
  }

  static class Widow extends Kind {
    int id() {
      return 2;
    }

    int lives(int has, int day) {
      int lives = super.lives(has, day);
      return lives > 1 ? lives + 1 : lives;
    }

    int trades(List<Integer> t, int x) {
      t.add(30);
      return 0 - super.trades(t, x);
    }
  }

  static class Heir extends Kind {
    int id() {
      return 3;
    }

    int lives(int has, int day) {
      int lives = super.lives(has, day);
      return lives / 2 + lives % 2;
    }

    int ages(List<Integer> t, int x) {
      t.add(40);
      return super.ages(t, x / 2);
    }
  }

  static class Truant extends Student {
    int id() {
      return 4;
    }

    int lives(int has, int day) {
      int lives = super.lives(has, day);
      return (day - m - 1 + 700) % 7 == 0 ? lives + lives : lives;
    }

    int yawns(List<Integer> t, int x) {
      t.add(50);
      return super.yawns(t, x) * 3;
    }

    int ages(List<Integer> t, int x) {
      t.add(51);
      return super.ages(t, x) ^ k;
    }
  }

  static class Merry extends Widow {
    int id() {
      return 5;
    }

    int lives(int has, int day) {
      int lives = super.lives(has, day);
      return day % 7 == 5 || day % 7 == 6 ? lives + m : lives;
    }

    int trades(List<Integer> t, int x) {
      t.add(60);
      return super.trades(t, x + 1);
    }
  }

  static class Bailiff extends Kind {
    int id() {
      return 6;
    }

    int lives(int has, int day) {
      return 1;
    }

    int yawns(List<Integer> t, int x) {
      t.add(70);
      return 9;
    }

    int trades(List<Integer> t, int x) {
      t.add(71);
      return super.trades(t, x) + m;
    }
  }

  /** All that an image keeps. */
  static final class Affairs {
    List<Soul> souls = new ArrayList<>();
    List<int[]> promises = new ArrayList<>();
    String[] texts = new String[2];
    StringBuilder tape = new StringBuilder();
    List<Integer> waiting = new ArrayList<>();
    int today;
    int meetings;
    int kept;
    int broken;
    int alone;
    int z = 1;

    Affairs copy() {
      Affairs other = new Affairs();
      for (Soul soul : souls) {
        Soul twin = new Soul();
        twin.age = soul.age;
        twin.money = soul.money;
        twin.has = soul.has.clone();
        twin.kind = kind(soul.kind.id() * 10 + soul.kind.m, soul.kind.k);
        other.souls.add(twin);
      }
      other.promises.addAll(promises);
      other.texts = texts.clone();
      other.tape.append(tape);
      other.waiting.addAll(waiting);
      other.today = today;
      other.meetings = meetings;
      other.kept = kept;
      other.broken = broken;
      other.alone = alone;
      other.z = z;
      return other;
    }
  }

  private Affairs a = new Affairs();
  private Affairs image;
  private int imaged;
  private final int[] told = new int[7];
  private final long[][] rows = new long[4][];
  private final int[] bits = new int[4];
  private List<Integer> trace = new ArrayList<>();

  static Kind kind(int km, int k) {
    Kind[] all = {new Kind(), new Student(), new Widow(), new Heir(), new Truant(), new Merry(), new Bailiff()};
    Kind kind = all[km / 10];
    kind.m = km % 10;
    kind.k = k;
    return kind;
  }

  interface Act {
    int answer();
  }

  int act(Act act) {
    try {
      return act.answer();
    } catch (Refusal refusal) {
      told[refusal.k]++;
      return -1000000000 - refusal.k;
    }
  }

  private static void need(boolean holds, int k) {
    if (!holds) {
      throw new Refusal(k);
    }
  }

  private Soul soul(int person) {
    need(person >= 0 && person < a.souls.size(), BEYOND);
    return a.souls.get(person);
  }

  private void two(int person, int other) {
    soul(person);
    soul(other);
    need(person != other, BEYOND);
  }

  private static void range(int v, int least, int most) {
    need(v >= least && v <= most, BEYOND);
  }

  private boolean up(int person, int day) {
    Soul soul = a.souls.get(person);
    return soul.kind.lives(soul.has[day], day) > 0;
  }

  int person(int km) {
    range(km, 0, 69);
    need(a.souls.size() < 6, FULL);
    Soul soul = new Soul();
    java.util.Arrays.fill(soul.has, 1);
    soul.kind = kind(km, a.souls.size());
    a.souls.add(soul);
    return a.souls.size() - 1;
  }

  int personIs(int person, int what) {
    Soul s = soul(person);
    range(what, 0, 4);
    return new int[] {s.kind.id(), s.kind.m, s.age, s.money, s.kind.lives(s.has[a.today % 28], a.today % 28)}[what];
  }

  int become(int person, int km) {
    Soul s = soul(person);
    range(km, 0, 69);
    int was = s.kind.id();
    s.kind = kind(km, person);
    return was;
  }

  int as(int person, int kind) {
    Soul s = soul(person);
    range(kind, 0, 6);
    Class<?>[] all = {Kind.class, Student.class, Widow.class, Heir.class, Truant.class, Merry.class, Bailiff.class};
    need(all[kind].isInstance(s.kind), KIND);
    return s.kind.m;
  }

  int change(int person, int what, int v) {
    Soul s = soul(person);
    range(what, 0, 1);
    range(v, 0, 9999);
    int was = what == 0 ? s.age : s.money;
    if (what == 0) {
      s.age = v;
    } else {
      s.money = v;
    }
    return was;
  }

  int has(int person, int day) {
    Soul s = soul(person);
    range(day, 0, 27);
    return s.has[day];
  }

  int give(int person, int day, int v) {
    Soul s = soul(person);
    range(day, 0, 27);
    range(v, 0, 9);
    int was = s.has[day];
    s.has[day] = v;
    return was;
  }

  int law(int use, int x, int y, int z) {
    range(use, 0, 1);
    String text = a.texts[use];
    if (text == null) {
      return use == 1 ? 0 : y > 4 ? 15 : 10;
    }
    int v = worth(text, use == 0 ? "dwh" : "atm", new int[] {x, y, z});
    int most = use == 0 ? 999 : 99;
    return v < 0 ? 0 : v > most ? most : v;
  }

  int price(int person, int day) {
    Soul s = soul(person);
    range(day, 0, 27);
    return law(0, day, day % 7, s.has[day]);
  }

  private int sale(int person, int other, int day) {
    Soul from = a.souls.get(person);
    Soul to = a.souls.get(other);
    int price = price(person, day);
    need(from.has[day] >= 1 && to.has[day] < 9 && to.money >= price && from.money + price <= 9999, STATE);
    to.money -= price;
    from.money += price;
    from.has[day]--;
    to.has[day]++;
    return price;
  }

  int sell(int person, int other, int day) {
    two(person, other);
    range(day, 0, 27);
    return sale(person, other, day);
  }

  int sellWeek(int person, int other, int week) {
    two(person, other);
    range(week, 0, 3);
    Affairs before = a.copy();
    int sum = 0;
    try {
      for (int i = 0; i < 7; i++) {
        sum += sale(person, other, week * 7 + i);
      }
    } catch (Refusal refusal) {
      a = before;
      throw refusal;
    }
    return sum;
  }

  int promise(int person, int other, int day) {
    two(person, other);
    range(day, 0, 27);
    need(a.promises.size() < 8, FULL);
    a.promises.add(new int[] {person, other, day});
    return a.promises.size() - 1;
  }

  private boolean kept(int[] promise) {
    return up(promise[0], promise[2]) && up(promise[1], promise[2]);
  }

  private int unkept() {
    int n = 0;
    for (int[] promise : a.promises) {
      n += kept(promise) ? 0 : 1;
    }
    return n;
  }

  int promiseIs(int promise, int what) {
    range(promise, 0, a.promises.size() - 1);
    range(what, 0, 3);
    int[] p = a.promises.get(promise);
    return what == 3 ? (kept(p) ? 1 : 0) : p[what];
  }

  int feed(long word, int n) {
    range(n, 1, 8);
    need(a.tape.length() + n <= 60, FULL);
    for (int i = 0; i < n; i++) {
      a.tape.append((char) (word & 255));
      word >>= 8;
    }
    return a.tape.length();
  }

  int text(int use) {
    range(use, 0, 1);
    String text = a.tape.toString();
    a.tape.setLength(0);
    int fault = fault(text, use == 0 ? "dwh" : "atm");
    if (fault >= 0) {
      return -10 - fault;
    }
    a.texts[use] = text;
    return 1;
  }

  /** Byte by byte, with the marks that are open on a stack; -1 if it is a TEXT. */
  static int fault(String text, String names) {
    StringBuilder open = new StringBuilder();
    boolean[] compared = new boolean[7];
    boolean wantsOperand = true;
    int digits = 0;
    for (int i = 0; i < text.length(); i++) {
      char c = text.charAt(i);
      boolean isDigit = c >= '0' && c <= '9';
      if (wantsOperand) {
        if (isDigit || names.indexOf(c) >= 0) {
          wantsOperand = false;
          digits = isDigit ? 1 : 4;
        } else if ((c == '!' || c == '(') && open.length() < 5) {
          open.append(c);
          compared[open.length()] = false;
        } else {
          return i;
        }
        continue;
      }
      if (isDigit) {
        digits++;
        if (digits > 4) {
          return i;
        }
        continue;
      }
      while (open.length() > 0 && open.charAt(open.length() - 1) == '!') {
        open.setLength(open.length() - 1);
      }
      int level = open.length();
      if (c == ')') {
        if (level == 0) {
          return i;
        }
        open.setLength(level - 1);
        digits = 4;
        continue;
      }
      if ("|&".indexOf(c) >= 0) {
        compared[level] = false;
      } else if ("<=>".indexOf(c) >= 0) {
        if (compared[level]) {
          return i;
        }
        compared[level] = true;
      } else if ("+-*/%".indexOf(c) < 0) {
        return i;
      }
      wantsOperand = true;
    }
    boolean isEnd = !wantsOperand && open.indexOf("(") < 0;
    return isEnd ? -1 : text.length();
  }

  /** Splits where the weakest signs join, the last of them first. */
  static int worth(String text, String names, int[] v) {
    for (String signs : new String[] {"|", "&", "<=>", "+-", "*/%"}) {
      int depth = 0;
      for (int i = text.length() - 1; i > 0; i--) {
        char c = text.charAt(i);
        depth += c == ')' ? 1 : c == '(' ? -1 : 0;
        if (depth == 0 && signs.indexOf(c) >= 0) {
          int l = worth(text.substring(0, i), names, v);
          int r = worth(text.substring(i + 1), names, v);
          return joined(c, l, r);
        }
      }
    }
    char c = text.charAt(0);
    if (c == '!') {
      return worth(text.substring(1), names, v) == 0 ? 1 : 0;
    }
    if (c == '(') {
      return worth(text.substring(1, text.length() - 1), names, v);
    }
    return names.indexOf(c) >= 0 ? v[names.indexOf(c)] : Integer.parseInt(text);
  }

  private static int joined(char c, int l, int r) {
    boolean holds;
    switch (c) {
      case '+': return (int) ((long) l + r);
      case '-': return (int) ((long) l - r);
      case '*': return (int) ((long) l * r);
      case '/': return r == 0 ? 0 : (int) ((long) l / r);
      case '%': return r == 0 ? 0 : (int) ((long) l % r);
      case '|': holds = !(l == 0 && r == 0); break;
      case '&': holds = !(l == 0 || r == 0); break;
      case '<': holds = l < r; break;
      case '=': holds = l == r; break;
      default: holds = l > r; break;
    }
    return holds ? 1 : 0;
  }

  int untell(int use) {
    range(use, 0, 1);
    int was = a.texts[use] == null ? 0 : 1;
    a.texts[use] = null;
    return was;
  }

  private int oneDay() {
    int day = a.today % 28;
    int n = 0;
    for (int i = 0; i < a.souls.size(); i++) {
      if (!up(i, day)) {
        continue;
      }
      n++;
      Soul s = a.souls.get(i);
      int dues = law(1, s.age, a.today, s.money);
      s.age = Math.min(9999, s.age + s.kind.lives(s.has[day], day));
      s.money = Math.max(0, s.money - dues);
      if (s.has[day] > 1) {
        a.meetings = Math.min(9999, a.meetings + 1);
      }
    }
    for (int[] promise : a.promises) {
      if (promise[2] == day && kept(promise)) {
        a.kept = Math.min(9999, a.kept + 1);
      } else if (promise[2] == day) {
        a.broken = Math.min(9999, a.broken + 1);
      }
    }
    if (n == 0) {
      a.alone = Math.min(9999, a.alone + 1);
    }
    a.today++;
    return n;
  }

  int days(int n) {
    range(n, 1, 60);
    need(a.today + n <= 9999, STATE);
    int sum = 0;
    for (int i = 0; i < n; i++) {
      sum += oneDay();
    }
    return sum;
  }

  private int draw() {
    a.z = (int) (a.z * 1103515245L + 12345L);
    return (int) ((a.z & 0xffffffffL) / 256);
  }

  int loose(int n) {
    range(n, 1, 40);
    need(a.today + n <= 9999, STATE);
    int sales = 0;
    for (int i = 0; i < n; i++) {
      int many = a.souls.size();
      if (many >= 2) {
        int from = draw() % many;
        int to = draw() % many;
        int day = draw() % 28;
        try {
          need(from != to, STATE);
          sale(from, to, day);
          sales++;
        } catch (Refusal refusal) {
          // no sale then
        }
      }
      oneDay();
    }
    return sales;
  }

  int seed(int v) {
    int was = a.z;
    a.z = v;
    return was;
  }

  private <T> T thought(java.util.function.Supplier<T> of) {
    Affairs before = a;
    a = a.copy();
    try {
      return of.get();
    } finally {
      a = before;
    }
  }

  int then(int n, int person, int what) {
    range(n, 0, 100);
    soul(person);
    range(what, 0, 1);
    return thought(() -> {
      for (int i = 0; i < n; i++) {
        oneDay();
      }
      return what == 0 ? a.souls.get(person).age : a.souls.get(person).money;
    });
  }

  int alone(int n) {
    range(n, 1, 60);
    return thought(() -> {
      a.alone = 0;
      for (int i = 0; i < n; i++) {
        oneDay();
      }
      return a.alone;
    });
  }

  int meet(int person, int other) {
    two(person, other);
    for (int i = 0; i < 28; i++) {
      int day = (a.today + i) % 28;
      if (up(person, day) && up(other, day)) {
        return i;
      }
    }
    throw new Refusal(NONE);
  }

  int keepers(int what) {
    range(what, 0, 1);
    for (int size = 1; size <= 6; size++) {
      for (int set = 0; set < 1 << a.souls.size(); set++) {
        if (Integer.bitCount(set) == size && keeps(set)) {
          return what == 0 ? size : set;
        }
      }
    }
    throw new Refusal(NONE);
  }

  private boolean keeps(int set) {
    for (int day = 0; day < 28; day++) {
      boolean isKept = false;
      for (int i = 0; i < a.souls.size(); i++) {
        isKept |= (set & 1 << i) != 0 && up(i, day);
      }
      if (!isKept) {
        return false;
      }
    }
    return true;
  }

  int buys(int person, int other) {
    two(person, other);
    List<Integer> prices = new ArrayList<>();
    for (int day = 0; day < 28; day++) {
      if (has(person, day) > 0 && has(other, day) < 9) {
        prices.add(price(person, day));
      }
    }
    java.util.Collections.sort(prices);
    int money = a.souls.get(other).money;
    int n = 0;
    for (int price : prices) {
      if (price > money) {
        break;
      }
      money -= price;
      n++;
    }
    return n;
  }

  int bailiffs(int person, int n, int what) {
    Soul s = soul(person);
    range(n, 1, 3);
    range(what, -2, n - 1);
    int[] best = null;
    for (int set = 0; set < 28 * 28 * 28; set++) {
      int[] row = {set / 784, set / 28 % 28, set % 28};
      if (n < 3 && row[2] != 0 || n < 2 && row[1] != 0) {
        continue;
      }
      int[] days = java.util.Arrays.copyOf(row, n);
      boolean rises = true;
      int sum = 0;
      for (int i = 0; i < n; i++) {
        rises &= s.has[days[i]] > 0 && (i == 0 || days[i] > days[i - 1]);
      }
      if (!rises) {
        continue;
      }
      for (int day : days) {
        sum += price(person, day);
      }
      for (int day : days) {
        s.has[day]--;
      }
      int bad = unkept();
      for (int day : days) {
        s.has[day]++;
      }
      if (best == null || bad < best[1] || bad == best[1] && sum < best[0]) {
        best = new int[n + 2];
        best[0] = sum;
        best[1] = bad;
        System.arraycopy(days, 0, best, 2, n);
      }
    }
    need(best != null, NONE);
    return best[what + 2];
  }

  int odds(int person, int part) {
    soul(person);
    range(part, 0, 1);
    int ups = 0;
    for (int day = 0; day < 28; day++) {
      ups += up(person, day) ? 1 : 0;
    }
    int g = java.math.BigInteger.valueOf(ups).gcd(java.math.BigInteger.valueOf(28)).intValue();
    return part == 0 ? ups / g : 28 / g;
  }

  private long[] row(int sheet) {
    range(sheet, 0, 3);
    need(rows[sheet] != null, NONE);
    return rows[sheet];
  }

  int fits(int sheet) {
    long[] row = row(sheet);
    int set = 0;
    for (int i = 0; i < a.souls.size(); i++) {
      boolean isSo = true;
      for (int j = 0; j < row.length; j++) {
        int day = (a.today + j) % 28;
        Soul s = a.souls.get(i);
        isSo &= s.kind.lives(s.has[day], day) == row[j];
      }
      set += isSo ? 1 << i : 0;
    }
    return set;
  }

  int voice(int person, int voice, int x) {
    Kind kind = soul(person).kind;
    range(voice, 0, 3);
    trace = new ArrayList<>();
    switch (voice) {
      case 0: return kind.yawns(trace, x);
      case 1: return kind.trades(trace, x);
      case 2: return kind.ages(trace, x);
      default: return kind.parts(trace, x);
    }
  }

  int body(int i) {
    need(i >= 0 && i < Math.min(30, trace.size()), NONE);
    return trace.get(i);
  }

  int sheet(int sheet, int width, int n) {
    range(sheet, 0, 3);
    need(width == 0 || width == 8 || width == 16 || width == 32, BEYOND);
    if (width == 0) {
      rows[sheet] = null;
      return 1;
    }
    need(n >= 0, STATE);
    range(n, 0, 24);
    rows[sheet] = new long[n];
    bits[sheet] = width;
    return 1;
  }

  int put(int sheet, int i, int v) {
    long[] row = row(sheet);
    range(i, 0, row.length - 1);
    long whole = 1L << bits[sheet];
    long rest = Math.floorMod((long) v, whole);
    row[i] = rest >= whole / 2 ? rest - whole : rest;
    return 1;
  }

  int move(int sheet, int i, int other, int j, int n) {
    range(sheet, 0, 3);
    range(other, 0, 3);
    long[] from = row(sheet);
    long[] to = row(other);
    need(bits[sheet] == bits[other], KIND);
    need(n >= 0 && i >= 0 && j >= 0, BEYOND);
    need((long) i + n <= from.length && (long) j + n <= to.length, BEYOND);
    long[] were = from.clone();
    for (int at = 0; at < n; at++) {
      to[j + at] = were[i + at];
    }
    return n;
  }

  int funds(int sheet) {
    long[] row = row(sheet);
    int n = 0;
    while (n < row.length && n < a.souls.size() && row[n] >= 0 && row[n] <= 9999) {
      a.souls.get(n).money = (int) row[n];
      n++;
    }
    return n;
  }

  int judge(int sheet) {
    long[] row = row(sheet);
    return thought(() -> {
      int n = 0;
      while (n < row.length && row[n] == oneDay()) {
        n++;
      }
      return n;
    });
  }

  int image() {
    image = a.copy();
    imaged++;
    return imaged;
  }

  int restore() {
    need(image != null, NONE);
    a = image.copy();
    return a.today;
  }

  int tell(int v) {
    need(a.waiting.size() < 24, FULL);
    a.waiting.add(v);
    return a.waiting.size();
  }

  int check() {
    List<Integer> row = a.waiting;
    a.waiting = new ArrayList<>();
    for (int i = 0; i < row.size(); i++) {
      if (i >= a.souls.size() || a.souls.get(i).age != row.get(i)) {
        return i + 1;
      }
    }
    return 0;
  }

  int count(int what) {
    range(what, 0, 11);
    return new int[] {
      a.souls.size(), a.promises.size(), a.today, a.meetings, a.kept, a.broken, a.alone, unkept(),
      a.tape.length(), a.waiting.size(), Math.min(30, trace.size()), a.z,
    }[what];
  }

  int told(int k) {
    range(k, 1, 6);
    return told[k];
  }
}
