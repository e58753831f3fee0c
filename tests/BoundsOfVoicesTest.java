/**
 * Promises 29 and 30 at their bounds: for each sentence of the document that names one, a test of
 * its own, that quotes it. What is refused stands in RefusalsTest, too.
 */
final class BoundsOfVoicesTest {
  private static final int LEAST = Integer.MIN_VALUE;
  private static final int MOST = Integer.MAX_VALUE;

  public static void main(String[] args) {
    voicesFrom0To3();
    everyVoiceOfEveryKind();
    numbersThatWrap();
    quotientsAreCut();
    leastByMinusOne();
    partedIfThatIsZero();
    partedAtOnce();
    partedIsAllThatItAnswers();
    numbersThatLookLikeErrors();
    traceOfTheLatest();
    traceOfNone();
    longestTrace();
    traceBehindAnError();
    whoSpeaks();
    Due.end();
  }

  /** Somebody who is number k. */
  private static SoldDays number(int k, int km) {
    SoldDays x = new SoldDays();
    for (int i = 0; i < k; i++) {
      x.person(0);
    }
    x.person(km);
    return x;
  }

  private static void said(int k, int km, int voice, int v, int want) {
    SoldDays x = number(k, km);
    Due.due("29: " + k + " of " + km + ", voice " + voice + " of " + v, x.voice(k, voice, v), want);
  }

  private static void traced(SoldDays x, int... bodies) {
    for (int i = 0; i < bodies.length; i++) {
      Due.due("30: body(" + i + ")", x.body(i), bodies[i]);
    }
    Due.due("30: body(" + bodies.length + ")", x.body(bodies.length), Due.NONE);
    Due.due("30: body(-1)", x.body(-1), Due.NONE);
    Due.due("40: BODIES", x.count(10), bodies.length);
  }

  /** "VOICES ..: 0 yawns, 1 trades, 2 ages, 3 parts." */
  private static void voicesFrom0To3() {
    SoldDays x = number(0, 3);
    Due.due("29: voice -1", x.voice(0, -1, 9), Due.BEYOND);
    Due.due("29: yawns", x.voice(0, 0, 9), 9);
    Due.due("29: trades", x.voice(0, 1, 9), 18);
    Due.due("29: ages", x.voice(0, 2, 9), 15);
    Due.due("29: parts", x.voice(0, 3, 9), 3);
    Due.due("29: voice 4", x.voice(0, 4, 9), Due.BEYOND);
  }

  /** "BODIES: Person: .. Bailiff: ..": each voice of each KIND, said by number 5 with m 2 of 10. */
  private static void everyVoiceOfEveryKind() {
    int[][] want = {
      {15, 30, 28, -3},
      {11, 22, 20, -3 + 2 * (6 - 4)},
      {15, -30, -32, -3},
      {15, 30, 2 * (5 + 5) - 2, -3},
      {33, 66, 64 ^ 5, -3 + 2 * (6 - 4) * 3},
      {15, -32, -34, -3},
      {9, 20, 18, -3},
    };
    int[][][] bodies = {
      {{10}, {11, 10}, {12, 11, 10}, {13}},
      {{20, 10}, {11, 20, 10}, {12, 11, 20, 10}, {21, 13, 11, 20, 10}},
      {{10}, {30, 11, 10}, {12, 30, 11, 10}, {13}},
      {{10}, {11, 10}, {40, 12, 11, 10}, {13}},
      {{50, 20, 10}, {11, 50, 20, 10}, {51, 12, 11, 50, 20, 10}, {21, 13, 11, 50, 20, 10}},
      {{10}, {60, 30, 11, 10}, {12, 60, 30, 11, 10}, {13}},
      {{70}, {71, 11, 70}, {12, 71, 11, 70}, {13}},
    };
    for (int kind = 0; kind < 7; kind++) {
      SoldDays x = number(5, kind * 10 + 2);
      for (int voice = 0; voice < 4; voice++) {
        Due.due("29: voice " + voice + " of KIND " + kind, x.voice(5, voice, 10), want[kind][voice]);
        traced(x, bodies[kind][voice]);
      }
    }
  }

  /** "with a number x (ints that wrap)" */
  private static void numbersThatWrap() {
    said(5, 0, 0, MOST, LEAST + 4);
    said(5, 0, 0, LEAST, LEAST + 5);
    said(0, 0, 1, MOST, -2);
    said(0, 0, 1, LEAST, 0);
    said(0, 9, 2, LEAST, -9);
    said(0, 9, 2, 1 << 30, MOST - 8);
    said(0, 10, 0, LEAST, MOST - 3);
    said(0, 20, 1, 1 << 30, LEAST);
    said(0, 40, 0, MOST, (MOST - 4) * 3);
    said(0, 50, 1, MOST, 0);
    said(0, 69, 1, MOST, 27);
    said(2, 49, 2, LEAST, ((LEAST + 2 - 4) * 3 * 2 - 9) ^ 2);
    said(0, 30, 2, LEAST, LEAST);
    said(0, 30, 2, MOST, MOST - 1);
  }

  /** "Quotients are cut toward 0." */
  private static void quotientsAreCut() {
    said(0, 2, 3, 7, 3);
    said(0, 2, 3, -7, -3);
    said(5, 3, 3, 7, -3);
    said(5, 3, 3, -7, 3);
    said(0, 9, 3, 8, 0);
    said(0, 9, 3, -8, 0);
    said(5, 0, 3, 4, 0);
    said(0, 30, 2, 5, 4);
    said(0, 30, 2, -5, -4);
    said(0, 30, 2, -1, 0);
  }

  /** The quotient that is no int wraps. */
  private static void leastByMinusOne() {
    said(5, 4, 3, LEAST, LEAST);
    said(1, 0, 3, LEAST, LEAST);
    said(1, 0, 3, MOST, LEAST + 1);
    said(0, 1, 3, LEAST, LEAST);
    said(5, 14, 3, LEAST, LEAST + 2 * (6 - 4));
  }

  /** "(PARTED if that is 0 ..)": if m is k, of those who speak this BODY, of any x. */
  private static void partedIfThatIsZero() {
    for (int k = 0; k < 6; k++) {
      for (int km = 0; km < 70; km++) {
        SoldDays x = number(k, km);
        boolean isParted = km % 10 == k;
        Due.due("29: parts, " + k + " of " + km, x.voice(k, 3, 0) == Due.PARTED ? 1 : 0, isParted ? 1 : 0);
        Due.due("41: told(6)", x.told(6), isParted ? 1 : 0);
      }
    }
  }

  /** "what stands left is worked out first": a STUDENT who parts begins no trades. */
  private static void partedAtOnce() {
    SoldDays x = number(3, 13);
    Due.due("29: PARTED", x.voice(3, 3, 8), Due.PARTED);
    traced(x, 21, 13);
    x.become(3, 43);
    Due.due("29: PARTED", x.voice(3, 3, 8), Due.PARTED);
    traced(x, 21, 13);
    x.become(3, 3);
    Due.due("29: PARTED", x.voice(3, 3, 8), Due.PARTED);
    traced(x, 13);
    x.become(3, 12);
    Due.due("29: not PARTED", x.voice(3, 3, 8), -8 + (1 + 3 - 4) * 2);
    traced(x, 21, 13, 11, 20, 10);
  }

  /** "that is all that voice() answers then": nothing of the ERROR is left in the next one. */
  private static void partedIsAllThatItAnswers() {
    SoldDays x = number(0, 10);
    for (int v : new int[] {0, 1, -1, LEAST, MOST}) {
      Due.due("29: parts of " + v, x.voice(0, 3, v), Due.PARTED);
    }
    Due.due("29: trades of it", x.voice(0, 1, 7), 6);
    Due.due("41: told(6)", x.told(6), 5);
    x.become(0, 11);
    Due.due("29: parts with m 1", x.voice(0, 3, 7), 7 - 6);
    Due.due("41: told(6)", x.told(6), 5);
  }

  /** "A VOICE of somebody: any number." */
  private static void numbersThatLookLikeErrors() {
    SoldDays x = number(0, 1);
    for (int k = 1; k <= 6; k++) {
      int v = -1000000000 - k;
      Due.due("29: yawns(" + v + ")", x.voice(0, 0, v), v);
      Due.due("29: parts(" + v + ")", x.voice(0, 3, v), v);
      traced(x, 13);
    }
    for (int k = 1; k <= 6; k++) {
      Due.due("41: told(" + k + ")", x.told(k), k == 2 ? 12 : 0);
    }
  }

  /** "THE TRACE: the numbers of BODIES of the latest voice()": a shorter one leaves nothing of a longer one. */
  private static void traceOfTheLatest() {
    SoldDays x = number(0, 49);
    x.voice(0, 2, 5);
    traced(x, 51, 12, 11, 50, 20, 10);
    x.become(0, 69);
    traced(x, 51, 12, 11, 50, 20, 10);
    x.voice(0, 0, 5);
    traced(x, 70);
    x.days(3);
    x.image();
    x.restore();
    traced(x, 70);
  }

  /** "NONE: there is none such." */
  private static void traceOfNone() {
    SoldDays x = number(0, 0);
    traced(x);
    Due.due("30: body(29)", x.body(29), Due.NONE);
    Due.due("30: body(30)", x.body(30), Due.NONE);
    Due.due("30: body(least)", x.body(LEAST), Due.NONE);
    Due.due("30: body(most)", x.body(MOST), Due.NONE);
    Due.due("41: told(2)", x.told(2), 6);
  }

  /** "the first 30": no VOICE has more than six BODIES. */
  private static void longestTrace() {
    int longest = 0;
    for (int km = 0; km < 70; km++) {
      SoldDays x = number(5, km);
      for (int voice = 0; voice < 4; voice++) {
        x.voice(5, voice, km);
        longest = Math.max(longest, x.count(10));
      }
    }
    Due.due("30: the longest", longest, 6);
  }

  /** "one that answers an ERROR changes nothing ..": BEYOND leaves THE TRACE. */
  private static void traceBehindAnError() {
    SoldDays x = number(1, 20);
    x.voice(1, 1, 5);
    x.voice(2, 0, 5);
    x.voice(-1, 0, 5);
    x.voice(1, 4, 5);
    x.voice(1, -1, 5);
    traced(x, 30, 11, 10);
    Due.due("41: told(1)", x.told(1), 4);
  }

  /** "k is the number, m as told": of the first one and of the last one. */
  private static void whoSpeaks() {
    SoldDays x = new SoldDays();
    for (int k = 0; k < 6; k++) {
      x.person(9 - k);
    }
    for (int k = 0; k < 6; k++) {
      Due.due("29: yawns of " + k, x.voice(k, 0, 0), k);
      Due.due("29: ages of " + k, x.voice(k, 2, 0), 2 * k - (9 - k));
      Due.due("29: parts of " + k, x.voice(k, 3, 1000), 1000 / (9 - 2 * k));
    }
  }
}
