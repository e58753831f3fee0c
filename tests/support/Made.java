/** Objects that tests begin with. */
final class Made {
  private Made() {}

  /** People of these KINDS and m, in this order. */
  static SoldDays people(int... kms) {
    SoldDays x = new SoldDays();
    for (int km : kms) {
      x.person(km);
    }
    return x;
  }

  /** As many days go as it takes till TODAY is so. */
  static void on(SoldDays x, int today) {
    int left = today - x.count(2);
    while (left > 0) {
      x.days(Math.min(60, left));
      left -= 60;
    }
    Due.due("40: TODAY", x.count(2), today);
  }

  /** Somebody HAS each DAY from the first to the last so often. */
  static void has(SoldDays x, int person, int first, int last, int often) {
    for (int day = first; day <= last; day++) {
      x.give(person, day, often);
    }
  }

  /** Three people, and something of all that can be changed; one SHEET (3) is missing. */
  static SoldDays usual() {
    SoldDays x = people(3, 12, 20);
    x.give(0, 5, 0);
    x.give(1, 6, 4);
    x.give(2, 5, 2);
    x.change(0, 0, 30);
    x.change(1, 1, 777);
    x.promise(0, 1, 5);
    x.promise(2, 0, 6);
    Due.text(x, 0, "d+h");
    Due.text(x, 1, "a%7");
    x.days(5);
    sheets(x);
    x.tell(1);
    x.tell(2);
    Due.feed(x, "1+2");
    x.image();
    x.days(1);
    x.loose(1);
    x.voice(2, 1, 9);
    return x;
  }

  private static void sheets(SoldDays x) {
    x.sheet(0, 16, 6);
    x.sheet(1, 8, 4);
    x.sheet(2, 16, 24);
    x.put(0, 0, 4000);
    x.put(0, 5, 2);
    x.put(1, 3, 3);
    x.put(2, 0, 1);
    x.put(2, 23, 6000);
  }

  /** Six people, eight promises, 60 bytes, 24 numbers that wait: there is room for no more. */
  static SoldDays full() {
    SoldDays x = people(0, 11, 22, 33, 44, 55);
    for (int i = 0; i < 8; i++) {
      x.promise(i % 6, (i + 1) % 6, 3 * i);
    }
    for (int i = 0; i < 15; i++) {
      x.feed(0x2b312b31L, 4);
    }
    for (int i = 0; i < 24; i++) {
      x.tell(0);
    }
    sheets(x);
    x.image();
    return x;
  }

  /** Two people on a TODAY, and an IMAGE of them. */
  static SoldDays late(int today) {
    SoldDays x = people(0, 60);
    x.give(0, 3, 0);
    on(x, today);
    x.image();
    return x;
  }
}
