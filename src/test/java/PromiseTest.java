/** The thirteen promises one by one: ordinary inputs, the edges, and wrong inputs. */
public final class PromiseTest {
  private static final Checks CHECKS = new Checks();
  private static final int[] WRONG_SLOTS = {-1, 32, Integer.MIN_VALUE, Integer.MAX_VALUE};
  private static final int[] TIDYINGS = {0, 1, 2, 2, 1, 0, 2, 0, 1};
  private static final int EVEN = 0x555;

  private static Counted withVariables() {
    Counted x = new Counted();
    for (int v = 0; v < 12; v++) {
      x.variable(v, v);
    }
    return x;
  }

  /** What a slot gives for all ways after some work on a store with the variables in the slots 0 to 11. */
  private static void dueTruths(String what, Stores.Work work, int slot, Stores.Rule rule) {
    CHECKS.due(what + ", ways that are off", Stores.waysOff(PromiseTest::withVariables, work, slot, rule), 0);
  }

  private static void dueIllegal(String what, Checks.Call call) {
    CHECKS.dueThrow(what, call, Checks.ILLEGAL_ARGUMENT);
  }

  private static boolean bit(int way, int v) {
    return (way >> v & 1) == 1;
  }

  private static void promise1() {
    Counted x = new Counted();
    for (int slot = 0; slot < 32; slot++) {
      CHECKS.due("1 new same", x.same(slot, 31 - slot), true);
      CHECKS.due("1 new support", x.support(slot), 0);
      CHECKS.due("1 new count", x.count(slot), 0);
      CHECKS.due("1 new value 0", x.value(slot, 0), false);
      CHECKS.due("1 new value 4095", x.value(slot, 4095), false);
    }
    CHECKS.due("1 new tidy", x.tidy(0), 0);
    CHECKS.due("1 new wrong", x.wrong(), 0);
    Counted other = new Counted();
    other.constant(0, true);
    CHECKS.due("1 two objects share nothing", x.tidy(0), 0);
  }

  private static void promise2() {
    Counted x = new Counted();
    x.constant(0, true);
    x.constant(31, true);
    CHECKS.due("2 two slots true", x.tidy(0), 2);
    CHECKS.due("2 same", x.same(0, 31), true);
    CHECKS.due("2 support", x.support(0), 0);
    CHECKS.due("2 count", x.count(0), 64);
    dueTruths("2 true", y -> y.constant(31, true), 31, way -> true);
    dueTruths("2 false", y -> y.constant(0, false), 0, way -> false);
    x.constant(31, false);
    CHECKS.due("2 false again", x.value(31, 4095), false);
    CHECKS.due("2 same as an untouched one", x.same(31, 5), true);
    for (int slot : WRONG_SLOTS) {
      dueIllegal("2 constant(" + slot + ")", () -> x.constant(slot, true));
    }
    CHECKS.due("2 a throw changes nothing", x.tidy(0), 1);
  }

  private static void promise3() {
    Counted x = withVariables();
    for (int v = 0; v < 12; v++) {
      int asked = v;
      CHECKS.due("3 support " + v, x.support(v), 1 << v);
      dueTruths("3 variable " + v, y -> y.variable(31, asked), 31, way -> bit(way, asked));
    }
    for (int v : new int[] {-1, 12, Integer.MIN_VALUE, Integer.MAX_VALUE}) {
      dueIllegal("3 variable(0, " + v + ")", () -> x.variable(0, v));
    }
    for (int slot : WRONG_SLOTS) {
      dueIllegal("3 variable(" + slot + ", 0)", () -> x.variable(slot, 0));
    }
    CHECKS.due("3 a throw changes nothing", x.support(0), 1);
    x.variable(31, 11);
    CHECKS.due("3 the last ones", x.same(31, 11), true);
    x.variable(31, 0);
    CHECKS.due("3 over another", x.same(31, 0), true);
  }

  private static void promise4() {
    Counted x = withVariables();
    CHECKS.due("4 choose is another", x.choose(20, 5, 0, 11), true);
    dueTruths("4 choose", y -> y.choose(20, 5, 0, 11), 20, way -> bit(way, 5) ? bit(way, 0) : bit(way, 11));
    CHECKS.due("4 choose again", x.choose(20, 5, 0, 11), false);
    CHECKS.due("4 by itself", x.choose(20, 20, 20, 20), false);
    CHECKS.due("4 the same on both sides", x.choose(21, 20, 3, 3), true);
    CHECKS.due("4 is that one", x.same(21, 3), true);
    CHECKS.due("4 slots as they were", x.choose(5, 5, 0, 11), true);
    CHECKS.due("4 into its own place", x.same(5, 20), true);
    x.constant(22, true);
    CHECKS.due("4 true chooses g", x.choose(23, 22, 1, 2) && x.same(23, 1), true);
    CHECKS.due("4 false chooses h", x.choose(23, 30, 1, 2) && x.same(23, 2), true);
    for (int slot : WRONG_SLOTS) {
      dueIllegal("4 slot " + slot, () -> x.choose(slot, 1, 2, 3));
      dueIllegal("4 f " + slot, () -> x.choose(0, slot, 2, 3));
      dueIllegal("4 g " + slot, () -> x.choose(0, 1, slot, 3));
      dueIllegal("4 h " + slot, () -> x.choose(0, 1, 2, slot));
    }
    CHECKS.due("4 a throw changes nothing", x.support(0), 1);
  }

  private static boolean joined(int kind, boolean f, boolean g) {
    switch (kind) {
      case 0:
        return f && g;
      case 1:
        return f || g;
      case 2:
        return f != g;
      case 3:
        return f && !g;
      default:
        return !f;
    }
  }

  private static void dueJoined(int kind, int f, int g) {
    dueTruths("5 kind " + kind, x -> x.join(20, kind, f, g), 20, way -> joined(kind, bit(way, f), bit(way, g)));
  }

  private static void promise5() {
    Counted x = withVariables();
    for (int kind = 0; kind < 5; kind++) {
      for (int f = 0; f < 12; f += 11) {
        for (int g = 3; g < 9; g += 5) {
          CHECKS.due("5 join is another", x.join(20, kind, f, g), kind != 4 || g == 3);
          CHECKS.due("5 join again", x.join(20, kind, f, g), false);
          dueJoined(kind, f, g);
        }
      }
    }
    CHECKS.due("5 slots as they were", x.join(0, 2, 0, 1) && x.support(0) == 3, true);
    CHECKS.due("5 just one of it and itself", x.join(0, 2, 0, 0) && x.same(0, 31), true);
    CHECKS.due("5 not twice", x.join(21, 4, 7, 0) && x.join(21, 4, 21, 0) && x.same(21, 7), true);
    for (int slot : WRONG_SLOTS) {
      dueIllegal("5 slot " + slot, () -> x.join(slot, 0, 2, 3));
      dueIllegal("5 f " + slot, () -> x.join(1, 0, slot, 3));
      dueIllegal("5 g " + slot, () -> x.join(1, 0, 2, slot));
      dueIllegal("5 g of a not " + slot, () -> x.join(1, 4, 2, slot));
    }
    for (int kind : new int[] {-1, 5, Integer.MIN_VALUE, Integer.MAX_VALUE}) {
      dueIllegal("5 kind " + kind, () -> x.join(1, kind, 2, 3));
    }
    CHECKS.due("5 a throw changes nothing", x.support(1), 2);
  }

  private static void promise6() {
    Counted x = withVariables();
    x.join(20, 2, 0, 1);
    x.join(21, 0, 20, 2);
    CHECKS.due("6 no variable: and", x.some(22, 20, 2, 0) && x.same(22, 21), true);
    CHECKS.due("6 one variable", x.some(22, 20, 2, 1) && x.same(22, 2), true);
    CHECKS.due("6 again", x.some(22, 20, 2, 1), false);
    CHECKS.due("6 variables that it does not hang on", x.some(23, 20, 2, 0xFF8) && x.same(23, 21), true);
    x.constant(24, true);
    for (int v = 0; v < 12; v++) {
      CHECKS.due("6 each variable", x.some(27, v, v, 1 << v), v == 0);
      CHECKS.due("6 each variable", x.same(27, 24), true);
    }
    CHECKS.due("6 all variables, something true", x.some(25, 20, 2, 4095) && x.same(25, 24), true);
    x.join(26, 4, 2, 2);
    CHECKS.due("6 never both true", x.some(25, 21, 26, 4095) && x.same(25, 31), true);
    CHECKS.due("6 each for another one is not both", x.some(25, 2, 26, 4), false);
    CHECKS.due("6 slots as they were", x.some(0, 0, 11, 1) && x.same(0, 11), true);
    for (int slot : WRONG_SLOTS) {
      dueIllegal("6 slot " + slot, () -> x.some(slot, 1, 2, 3));
      dueIllegal("6 f " + slot, () -> x.some(1, slot, 2, 3));
      dueIllegal("6 g " + slot, () -> x.some(1, 1, slot, 3));
    }
    for (int mask : new int[] {-1, 4096, Integer.MIN_VALUE, Integer.MAX_VALUE}) {
      dueIllegal("6 mask " + mask, () -> x.some(1, 1, 2, mask));
    }
    CHECKS.due("6 a throw changes nothing", x.support(1), 2);
  }

  private static void promise7() {
    Counted x = withVariables();
    for (int v = 0; v < 12; v++) {
      CHECKS.due("7 turn is another", x.turn(20, v), true);
      CHECKS.due("7 the partner", x.same(20, v ^ 1), true);
    }
    x.choose(21, 0, 3, 10);
    x.choose(22, 1, 2, 11);
    CHECKS.due("7 turn a choice", x.turn(23, 21) && x.same(23, 22), true);
    CHECKS.due("7 turn in place", x.turn(21, 21) && x.same(21, 22), true);
    CHECKS.due("7 turn in place again", x.turn(21, 21), true);
    x.join(24, 1, 6, 7);
    CHECKS.due("7 what is alike from both sides", x.turn(24, 24), false);
    x.constant(25, true);
    CHECKS.due("7 true", x.turn(25, 25), false);
    CHECKS.due("7 false", x.turn(31, 31), false);
    for (int slot : WRONG_SLOTS) {
      dueIllegal("7 slot " + slot, () -> x.turn(slot, 0));
      dueIllegal("7 f " + slot, () -> x.turn(0, slot));
    }
    CHECKS.due("7 a throw changes nothing", x.support(0), 1);
  }

  private static void promise8() {
    Counted x = withVariables();
    x.join(20, 0, 0, 11);
    CHECKS.due("8 the lowest bit is variable 0", x.value(0, 1), true);
    CHECKS.due("8 the highest bit is variable 11", x.value(11, 2048), true);
    CHECKS.due("8 only one of both", x.value(20, 2048), false);
    CHECKS.due("8 both", x.value(20, 2049), true);
    CHECKS.due("8 all", x.value(20, 4095), true);
    CHECKS.due("8 none", x.value(20, 0), false);
    for (int slot : WRONG_SLOTS) {
      dueIllegal("8 slot " + slot, () -> x.value(slot, 0));
    }
    for (int way : new int[] {-1, 4096, Integer.MIN_VALUE, Integer.MAX_VALUE}) {
      dueIllegal("8 way " + way, () -> x.value(0, way));
    }
  }

  private static void promise9() {
    Counted x = withVariables();
    x.join(20, 0, 3, 4);
    x.join(21, 4, 3, 0);
    x.join(22, 4, 4, 0);
    x.join(23, 1, 21, 22);
    CHECKS.due("9 not yet", x.same(20, 23), false);
    x.join(23, 4, 23, 0);
    CHECKS.due("9 made another way", x.same(20, 23), true);
    x.tidy(2);
    x.join(24, 0, 4, 3);
    CHECKS.due("9 made in another order", x.same(24, 20), true);
    CHECKS.due("9 with itself", x.same(20, 20), true);
    CHECKS.due("9 others", x.same(3, 4), false);
    for (int slot : WRONG_SLOTS) {
      dueIllegal("9 slot " + slot, () -> x.same(slot, 0));
      dueIllegal("9 other " + slot, () -> x.same(0, slot));
    }
  }

  private static void promise10() {
    Counted x = withVariables();
    for (int v = 0; v < 12; v++) {
      int slot = v;
      CHECKS.dueThrow("10 variable " + v, () -> x.count(slot), v % 2 == 0 ? Checks.NOTHING : Checks.UNSUPPORTED);
    }
    CHECKS.due("10 one variable", x.count(10), 32);
    x.constant(20, true);
    for (int v = 0; v < 12; v += 2) {
      x.join(20, 0, 20, v);
      CHECKS.due("10 and of some", x.count(20), 32 >> v / 2);
    }
    x.join(21, 2, 0, 8);
    CHECKS.due("10 just one", x.count(21), 32);
    x.join(22, 1, 20, 1);
    CHECKS.dueThrow("10 hangs on 1 too", () -> x.count(22), Checks.UNSUPPORTED);
    x.some(22, 22, 22, 2);
    CHECKS.due("10 no more", x.count(22), 64);
    for (int slot : WRONG_SLOTS) {
      dueIllegal("10 slot " + slot, () -> x.count(slot));
    }
  }

  private static void promise11() {
    Counted x = withVariables();
    x.constant(20, true);
    int mask = 0;
    for (int v = 11; v >= 0; v -= 2) {
      x.join(20, 0, 20, v);
      mask |= 1 << v;
      CHECKS.due("11 and of some", x.support(20), mask);
    }
    x.join(21, 2, 20, 4);
    CHECKS.due("11 one more", x.support(21), mask | 16);
    x.tidy(1);
    CHECKS.due("11 in another order", x.support(21), mask | 16);
    x.join(21, 2, 21, 20);
    CHECKS.due("11 all others are gone", x.support(21), 16);
    for (int slot : WRONG_SLOTS) {
      dueIllegal("11 slot " + slot, () -> x.support(slot));
    }
  }

  /** Slot 12: the variables v and v + 6 differ for each v. */
  private static void pairs(Store x) {
    x.constant(12, true);
    x.join(13, 2, 5, 5);
    for (int v = 0; v < 6; v++) {
      x.join(20, 2, v, v + 6);
      x.join(12, 0, 12, 20);
    }
  }

  private static void tidyFirst(Store x, int number) {
    for (int i = 0; i < number; i++) {
      x.tidy(TIDYINGS[i]);
    }
  }

  private static void promise12() {
    Counted x = withVariables();
    pairs(x);
    for (int i = 0; i < TIDYINGS.length; i++) {
      int done = i + 1;
      CHECKS.due("12 tidy(" + TIDYINGS[i] + ")", x.tidy(TIDYINGS[i]), 14);
      CHECKS.due("12 wrong after it", x.wrong(), 0);
      dueTruths("12 after " + done + " tidyings", y -> {
        pairs(y);
        tidyFirst(y, done);
      }, 12, Stores::allPairs);
    }
    x.constant(12, false);
    CHECKS.due("12 one less", x.tidy(0), 13);
    for (int what : new int[] {-1, 3, Integer.MIN_VALUE, Integer.MAX_VALUE}) {
      dueIllegal("12 tidy(" + what + ")", () -> x.tidy(what));
    }
    for (int slot = 0; slot < 32; slot++) {
      x.variable(slot, slot % 12);
    }
    CHECKS.due("12 all slots", x.tidy(1), 32);
  }

  private static void promise13() {
    Counted x = withVariables();
    CHECKS.due("13 wrong", x.wrong(), 0);
    for (int i = 0; i < 120; i++) {
      x.choose(12 + i % 20, (i * 7 + 3) % 32, (i * 11 + 1) % 32, (i * 5) % 32);
      x.turn(12 + (i + 9) % 20, (i * 13) % 32);
      if (i % 10 == 9) {
        x.tidy(i % 3);
      }
      CHECKS.due("13 wrong", x.wrong(), 0);
    }
  }

  /** The exception for a number out of range comes before the other one. */
  private static void orderOfThrows() {
    Counted x = withVariables();
    CHECKS.dueThrow("count of an odd one", () -> x.count(1), Checks.UNSUPPORTED);
    CHECKS.dueThrow("count of a wrong slot", () -> x.count(33), Checks.ILLEGAL_ARGUMENT);
    CHECKS.due("all ways within EVEN are rows", x.support(1) & EVEN, 0);
  }

  public static void main(String[] args) {
    promise1();
    promise2();
    promise3();
    promise4();
    promise5();
    promise6();
    promise7();
    promise8();
    promise9();
    promise10();
    promise11();
    promise12();
    promise13();
    orderOfThrows();
    CHECKS.end("PromiseTest");
  }
}
