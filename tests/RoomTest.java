import java.lang.management.ManagementFactory;

/** A call makes no objects and rows: what 512 of the dearest ones leave behind is next to nothing. */
final class RoomTest {
  private static final long MOST_OF_AN_OBJECT = 16384;
  private static final long MOST_OF_ITS_CALLS = 4096;

  public static void main(String[] args) {
    for (int i = 0; i < 4; i++) {
      SoldDays warm = made();
      use(warm);
    }
    long before = bytes();
    SoldDays x = made();
    long made = bytes();
    use(x);
    long used = bytes();
    Due.due("bytes of an object: " + (made - before), made - before < MOST_OF_AN_OBJECT ? 1 : 0, 1);
    Due.due("bytes of its calls: " + (used - made), used - made < MOST_OF_ITS_CALLS ? 1 : 0, 1);
    Due.end();
  }

  private static long bytes() {
    return ((com.sun.management.ThreadMXBean) ManagementFactory.getThreadMXBean()).getThreadAllocatedBytes(Thread.currentThread().getId());
  }

  private static SoldDays made() {
    SoldDays x = new SoldDays();
    for (int i = 0; i < 6; i++) {
      x.person(40 + i);
    }
    for (int i = 0; i < 8; i++) {
      x.promise(i % 6, (i + 1) % 6, i);
    }
    return x;
  }

  private static void use(SoldDays x) {
    for (int i = 0; i < 30; i++) {
      x.feed(0x2b312b312b312b31L, 8);
      x.feed(0x2b312b312b312b31L, 7);
      x.text(i % 2);
      x.days(60);
      x.loose(40);
      x.then(100, 1, 1);
      x.keepers(1);
      x.buys(0, 1);
      x.bailiffs(0, 3, 2);
      x.voice(4, 2, i);
      x.sheet(i % 4, 32, 24);
      x.fits(i % 4);
      x.judge(i % 4);
      x.become(i % 6, 10 + i);
      x.image();
      x.restore();
    }
  }
}
