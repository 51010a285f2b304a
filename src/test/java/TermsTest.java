import java.util.Arrays;
import java.util.Random;

/** Each sentence of "What it is" and of "Terms" that names a boundary case has a test of its own here. */
public final class TermsTest {
  private static final Checks CHECKS = new Checks();

  private interface Ask {
    void with(Store x, int number);
  }

  /** Every place in the face where a slot stands. */
  private static final Ask[] SLOTS = {
    (x, n) -> x.constant(n, true),
    (x, n) -> x.constant(n, false),
    (x, n) -> x.variable(n, 3),
    (x, n) -> x.choose(n, 0, 1, 2),
    (x, n) -> x.choose(Stores.FALSE, n, 1, 2),
    (x, n) -> x.choose(Stores.FALSE, 0, n, 2),
    (x, n) -> x.choose(Stores.FALSE, 0, 1, n),
    (x, n) -> x.join(n, 1, 0, 1),
    (x, n) -> x.join(Stores.FALSE, 1, n, 1),
    (x, n) -> x.join(Stores.FALSE, 1, 0, n),
    (x, n) -> x.join(n, 4, 0, 1),
    (x, n) -> x.join(Stores.FALSE, 4, n, 1),
    (x, n) -> x.join(Stores.FALSE, 4, 0, n),
    (x, n) -> x.some(n, 0, 1, 1),
    (x, n) -> x.some(Stores.FALSE, n, 1, 1),
    (x, n) -> x.some(Stores.FALSE, 0, n, 1),
    (x, n) -> x.turn(n, 0),
    (x, n) -> x.turn(Stores.FALSE, n),
    (x, n) -> x.value(n, 0),
    (x, n) -> x.same(n, 0),
    (x, n) -> x.same(0, n),
    (x, n) -> x.count(n),
    (x, n) -> x.support(n),
  };

  private static final Ask[] VARIABLES = {(x, n) -> x.variable(Stores.FALSE, n), (x, n) -> x.variable(0, n)};
  private static final Ask[] KINDS = {(x, n) -> x.join(Stores.FALSE, n, 0, 1), (x, n) -> x.join(0, n, 0, 0)};
  private static final Ask[] WAYS = {(x, n) -> x.value(0, n), (x, n) -> x.value(Stores.FALSE, n)};
  private static final Ask[] MASKS = {(x, n) -> x.some(Stores.FALSE, 0, 1, n), (x, n) -> x.some(0, 0, 0, n)};
  private static final Ask[] TIDYINGS = {(x, n) -> x.tidy(n)};

  private static final int[] TOO_SMALL = {-1, -2, -31, -32, -64, -4095, -4096, -65536, Integer.MIN_VALUE};

  private static final Ask[] WRONG_TWICE = {
    (x, n) -> x.variable(n, 12),
    (x, n) -> x.variable(32, -1),
    (x, n) -> x.choose(n, n, n, n),
    (x, n) -> x.choose(-1, 32, 0, n),
    (x, n) -> x.join(n, 5, n, n),
    (x, n) -> x.join(0, -1, 0, n),
    (x, n) -> x.some(n, n, n, 4096),
    (x, n) -> x.some(0, 0, n, -1),
    (x, n) -> x.turn(n, n),
    (x, n) -> x.value(n, 4096),
    (x, n) -> x.same(n, n),
  };

  /** Numbers from the bound on, and such as a shift, a mask or a narrower type would make small again. */
  private static int[] tooLarge(int bound) {
    return new int[] {bound, bound + 1, 2 * bound, 1 << 8, 1 << 12, (1 << 12) + 1, 1 << 16, (1 << 16) + 1, 1 << 30,
        Integer.MAX_VALUE};
  }

  private static int[] wrongFor(int bound) {
    int[] large = Arrays.stream(tooLarge(bound)).filter(n -> n >= bound).toArray();
    int[] all = Arrays.copyOf(TOO_SMALL, TOO_SMALL.length + large.length);
    System.arraycopy(large, 0, all, TOO_SMALL.length, large.length);
    return all;
  }

  private static void dueTaken(Ask[] asks, int bound) {
    for (int i = 0; i < asks.length; i++) {
      int ask = i;
      for (int n = 0; n < bound; n++) {
        int number = n;
        Store x = new Counted();
        CHECKS.dueThrow("place " + i + " with " + n, () -> asks[ask].with(x, number), Checks.NOTHING);
      }
    }
  }

  private static void dueRefused(Ask[] asks, int bound) {
    for (int i = 0; i < asks.length; i++) {
      int ask = i;
      for (int number : wrongFor(bound)) {
        Store x = Stores.ORDERS[0].make();
        CHECKS.dueThrow("place " + i + " with " + number, () -> asks[ask].with(x, number), Checks.ILLEGAL_ARGUMENT);
      }
    }
  }

  private static void dueRange(Ask[] asks, int bound) {
    dueTaken(asks, bound);
    dueRefused(asks, bound);
  }

  /** Each slot gets 'just one of' the variables that stand for the bits of its number, and of 5. */
  private static Counted allDifferent() {
    Counted x = new Counted();
    for (int slot = 0; slot < 32; slot++) {
      x.variable(slot, 5);
    }
    for (int v = 0; v < 5; v++) {
      // no slot is free to hold the variable alone: the first slot and the last are done at the end
      x.variable(31, v);
      for (int slot = 1; slot < 31; slot++) {
        if (Stores.bit(slot, v)) {
          x.join(slot, 2, slot, 31);
        }
      }
    }
    x.variable(31, 5);
    for (int v = 0; v < 5; v++) {
      x.variable(0, v);
      x.join(31, 2, 31, 0);
    }
    x.variable(0, 5);
    return x;
  }

  private static void slotsHoldOneEach() {
    for (int slot = 0; slot < 32; slot++) {
      int held = slot;
      CHECKS.due("slot " + slot, Stores.waysOff(TermsTest::allDifferent, x -> { }, slot,
          way -> Integer.bitCount(way & (held | 32)) % 2 == 1), 0);
    }
    Counted x = allDifferent();
    for (int slot = 0; slot < 31; slot++) {
      CHECKS.due("neighbours", x.same(slot, slot + 1), false);
    }
    CHECKS.due("first and last", x.same(0, 31), false);
    CHECKS.due("all are held", x.tidy(0), 32);
  }

  private static void slotsAreFalseAtFirst() {
    for (int slot = 0; slot < 32; slot++) {
      CHECKS.due("slot " + slot, Stores.waysOff(Counted::new, x -> { }, slot, way -> false), 0);
    }
  }

  private static void bitsOfAWay() {
    for (Stores.Recipe order : Stores.ORDERS) {
      for (int v = 0; v < 12; v++) {
        Store x = order.make();
        for (int bit = 0; bit < 12; bit++) {
          CHECKS.due("variable " + v + ", only bit " + bit, x.value(v, 1 << bit), bit == v);
          CHECKS.due("variable " + v + ", all but bit " + bit, x.value(v, 4095 ^ 1 << bit), bit != v);
        }
        CHECKS.due("variable " + v + ", no bit", x.value(v, 0), false);
        CHECKS.due("variable " + v + ", all bits", x.value(v, 4095), true);
      }
    }
  }

  private static void bitsOfAMask() {
    for (Stores.Recipe order : Stores.ORDERS) {
      Store x = order.make();
      for (int v = 0; v < 12; v++) {
        CHECKS.due("the mask of variable " + v, x.support(v), 1 << v);
        x.some(20, v, v, 1 << v);
        CHECKS.due("only bit " + v, x.same(20, Stores.TRUE), true);
        x.some(20, v, v, 4095 ^ 1 << v);
        CHECKS.due("all but bit " + v, x.same(20, v), true);
      }
      x.some(20, Stores.PAIRS, Stores.PAIRS, 0);
      CHECKS.due("the empty set", x.same(20, Stores.PAIRS), true);
      x.some(20, Stores.PAIRS, Stores.PAIRS, 4095);
      CHECKS.due("the full set", x.same(20, Stores.TRUE), true);
      CHECKS.due("the full set as an answer", x.support(Stores.PAIRS), 4095);
      CHECKS.due("the empty set as an answer", x.support(Stores.TRUE), 0);
    }
  }

  private static void rangeComesFirst() {
    for (Stores.Recipe order : Stores.ORDERS) {
      Store x = order.make();
      CHECKS.dueThrow("an odd function", () -> x.count(Stores.ODDS), Checks.UNSUPPORTED);
      // slot 1 would be met by a mask of bits, and hangs on an odd variable
      for (int number : new int[] {-1, -31, 32, 33, 65, 257, 65537, Integer.MIN_VALUE + 1, Integer.MAX_VALUE}) {
        CHECKS.dueThrow("count(" + number + ")", () -> x.count(number), Checks.ILLEGAL_ARGUMENT);
      }
      for (Ask ask : WRONG_TWICE) {
        CHECKS.dueThrow("too small", () -> ask.with(x, -1), Checks.ILLEGAL_ARGUMENT);
        CHECKS.dueThrow("too large", () -> ask.with(x, 32), Checks.ILLEGAL_ARGUMENT);
      }
    }
  }

  private static void dueNoChange(Ask[] asks, int bound) {
    for (Stores.Recipe order : Stores.ORDERS) {
      long[] due = Stores.answers(order.make());
      int[] dueOrder = order.make().inside().order();
      for (int i = 0; i < asks.length; i++) {
        int ask = i;
        for (int number : wrongFor(bound)) {
          Counted x = order.make();
          CHECKS.dueThrow("place " + i, () -> asks[ask].with(x, number), Checks.ILLEGAL_ARGUMENT);
          CHECKS.due("the order after it", Arrays.equals(x.inside().order(), dueOrder), true);
          CHECKS.due("place " + i + " with " + number, Arrays.equals(Stores.answers(x), due), true);
        }
      }
    }
  }

  private static void refusedCallsChangeNothing() {
    dueNoChange(SLOTS, 32);
    dueNoChange(VARIABLES, 12);
    dueNoChange(KINDS, 5);
    dueNoChange(WAYS, 4096);
    dueNoChange(MASKS, 4096);
    dueNoChange(TIDYINGS, 3);
    dueNoChange(WRONG_TWICE, 32);
  }

  private static void unsupportedCountChangesNothing() {
    for (Stores.Recipe order : Stores.ORDERS) {
      long[] due = Stores.answers(order.make());
      for (int slot : new int[] {1, 11, Stores.ODDS, Stores.PAIRS}) {
        Counted x = order.make();
        CHECKS.dueThrow("count(" + slot + ")", () -> x.count(slot), Checks.UNSUPPORTED);
        CHECKS.due("after count(" + slot + ")", Arrays.equals(Stores.answers(x), due), true);
      }
    }
  }

  private static void refusedCallsLeaveNewObjectsNew() {
    long[] due = Stores.answers(new Counted());
    for (Ask ask : SLOTS) {
      Counted x = new Counted();
      for (int number : wrongFor(32)) {
        CHECKS.dueThrow("with " + number, () -> ask.with(x, number), Checks.ILLEGAL_ARGUMENT);
      }
      CHECKS.due("a new object", Arrays.equals(Stores.answers(x), due), true);
    }
  }

  private static int[] drawn(Random random) {
    return new int[] {random.nextInt(32), random.nextInt(32), random.nextInt(32), random.nextInt(32),
        random.nextInt(4096), random.nextInt(12), random.nextInt(5), random.nextInt(3)};
  }

  /** The same call of each kind again and again; the 512th is answered as the first would be. */
  private static void everyCallOfTheRun() {
    for (int last = 0; last < Calls.KINDS; last++) {
      Random random = new Random(last);
      Counted x = new Counted();
      Store y = new TableStore();
      while (x.left() > 0) {
        boolean mixed = x.left() > 1 && x.left() % 3 != 0;
        int call = mixed ? 1 + random.nextInt(5) : last;
        int[] a = drawn(random);
        String name = "call " + call + " with " + x.left() + " left";
        CHECKS.due(name, Calls.outcome(x, call, a), Calls.outcome(y, call, a));
      }
    }
  }

  private static void onlyOneKindOfCall() {
    for (int call = 0; call < Calls.KINDS; call++) {
      Random random = new Random(call);
      Counted x = Stores.ORDERS[call % 3].make();
      Store y = new TableStore();
      Stores.prepare(y);
      while (x.left() > 0) {
        int[] a = drawn(random);
        CHECKS.due("call " + call, Calls.outcome(x, call, a), Calls.outcome(y, call, a));
      }
    }
  }

  private static void refusedUntilTheLastCall() {
    Counted x = new Counted();
    while (x.left() > 2) {
      CHECKS.dueThrow("refused", () -> x.join(0, 5, 0, 0), Checks.ILLEGAL_ARGUMENT);
    }
    CHECKS.due("call 511", x.join(31, 4, 0, 0), true);
    CHECKS.due("call 512", x.tidy(1), 1);
  }

  public static void main(String[] args) {
    CHECKS.sentence("An object is used for at most 512 calls", TermsTest::everyCallOfTheRun);
    CHECKS.sentence("at most 512 calls: all of one kind", TermsTest::onlyOneKindOfCall);
    CHECKS.sentence("at most 512 calls: refused ones", TermsTest::refusedUntilTheLastCall);
    CHECKS.sentence("SLOTS 0 .. 31", () -> dueRange(SLOTS, 32));
    CHECKS.sentence("hold a FUNCTION each", TermsTest::slotsHoldOneEach);
    CHECKS.sentence("at first FALSE", TermsTest::slotsAreFalseAtFirst);
    CHECKS.sentence("the VARIABLES 0 .. 11", () -> dueRange(VARIABLES, 12));
    CHECKS.sentence("A WAY is .. a number 0 .. 4095", () -> dueRange(WAYS, 4096));
    CHECKS.sentence("whose bit v (0 the lowest) is that of VARIABLE v", TermsTest::bitsOfAWay);
    CHECKS.sentence("A MASK is .. such a number", () -> dueRange(MASKS, 4096));
    CHECKS.sentence("A MASK is a set of VARIABLES", TermsTest::bitsOfAMask);
    CHECKS.sentence("a number out of range: a kind", () -> dueRange(KINDS, 5));
    CHECKS.sentence("a number out of range: a tidying", () -> dueRange(TIDYINGS, 3));
    CHECKS.sentence("What is thrown, in this order", TermsTest::rangeComesFirst);
    CHECKS.sentence("A call that throws changes nothing", TermsTest::refusedCallsChangeNothing);
    CHECKS.sentence("A call that throws: count", TermsTest::unsupportedCountChangesNothing);
    CHECKS.sentence("A call that throws: a new object", TermsTest::refusedCallsLeaveNewObjectsNew);
    CHECKS.end("TermsTest");
  }
}
