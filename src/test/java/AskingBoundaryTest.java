import java.util.Arrays;
import java.util.Random;

/** Each sentence of the promises 8 to 13 that names a boundary case has a test of its own here. */
public final class AskingBoundaryTest {
  private static final Checks CHECKS = new Checks();
  private static final int OUT = Stores.OUT;
  private static final int OTHER = Stores.OTHER;
  private static final int[] EVEN_VARIABLES = {0, 2, 4, 6, 8, 10};

  private static void dueIllegal(String what, Checks.Call call) {
    CHECKS.dueThrow(what, call, Checks.ILLEGAL_ARGUMENT);
  }

  private static boolean bit(int way, int v) {
    return Stores.bit(way, v);
  }

  private static void dueTruths(String what, Stores.Work work, int slot, Stores.Rule rule) {
    CHECKS.due(what + ", ways that are off", Stores.waysOffInAllOrders(work, slot, rule), 0);
  }

  private static void valueOfEdges() {
    for (int only : new int[] {0, 1, 2047, 2048, 4094, 4095}) {
      dueTruths("true for " + only + " alone", x -> Stores.oneWay(x, only), OUT, way -> way == only);
    }
  }

  private static void valueRange() {
    Counted x = Stores.ORDERS[0].make();
    for (int way : new int[] {-1, -4096, 4096, 4097, 8191, 65536, Integer.MIN_VALUE, Integer.MAX_VALUE}) {
      dueIllegal("way " + way, () -> x.value(Stores.TRUE, way));
    }
    for (int slot : new int[] {-1, 32}) {
      dueIllegal("slot " + slot, () -> x.value(slot, 0));
    }
  }

  private static void valueChangesNothing() {
    for (Stores.Recipe order : Stores.ORDERS) {
      Counted x = order.make();
      for (int i = 0; i < 100; i++) {
        CHECKS.due("asked again", x.value(Stores.PAIRS, 63), true);
        CHECKS.due("asked again", x.value(Stores.PAIRS, 62), false);
      }
      CHECKS.due("support", x.support(Stores.PAIRS), 4095);
    }
  }

  private static void sameOrNot() {
    for (Stores.Recipe order : Stores.ORDERS) {
      Counted x = order.make();
      for (int slot = 0; slot < 32; slot++) {
        CHECKS.due("with itself " + slot, x.same(slot, slot), true);
      }
      CHECKS.due("TRUE and FALSE", x.same(Stores.TRUE, Stores.FALSE), false);
      CHECKS.due("FALSE twice, in the last slot", x.same(Stores.FALSE, Stores.LAST), true);
      CHECKS.due("first and last", x.same(0, 31), false);
      x.variable(31, 0);
      CHECKS.due("first and last, now the same", x.same(0, 31) && x.same(31, 0), true);
      x.join(OUT, 4, 7, 7);
      CHECKS.due("one and its contrary", x.same(7, OUT), false);
      x.join(OUT, 4, OUT, OUT);
      CHECKS.due("not not", x.same(7, OUT), true);
    }
  }

  private static void sameRange() {
    Counted x = Stores.ORDERS[0].make();
    for (int slot : new int[] {-1, 32}) {
      dueIllegal("slot " + slot, () -> x.same(slot, 0));
      dueIllegal("other " + slot, () -> x.same(0, slot));
      dueIllegal("both " + slot, () -> x.same(slot, slot));
    }
  }

  private static void sameButForOneWay() {
    for (Stores.Recipe order : Stores.ORDERS) {
      for (int only : new int[] {0, 1, 2048, 4095}) {
        Counted x = order.make();
        Stores.oneWay(x, only);
        CHECKS.due("FALSE but for " + only, x.same(OUT, Stores.FALSE), false);
        x.join(OTHER, 2, Stores.PAIRS, OUT);
        CHECKS.due("a function but for " + only, x.same(OTHER, Stores.PAIRS), false);
        x.join(OTHER, 2, OTHER, OUT);
        CHECKS.due("as before", x.same(OTHER, Stores.PAIRS), true);
        x.join(OUT, 4, OUT, OUT);
        CHECKS.due("TRUE but for " + only, x.same(OUT, Stores.TRUE), false);
      }
    }
  }

  private static void sameInAnotherOrder() {
    for (Stores.Recipe order : Stores.ORDERS) {
      for (int what = 0; what < 3; what++) {
        Counted x = order.make();
        x.join(OUT, 0, 3, 9);
        x.tidy(what);
        x.join(OTHER, 0, 9, 3);
        CHECKS.due("made before and after tidy(" + what + ")", x.same(OUT, OTHER), true);
        CHECKS.due("and not others", x.same(OUT, 3), false);
      }
    }
  }

  /** Slot OUT: the even variables are those of one row; it does not hang on the others. */
  private static void oneRow(Store x, int row) {
    x.constant(OUT, true);
    for (int i = 0; i < 6; i++) {
      x.join(OUT, bit(row, i) ? 0 : 3, OUT, EVEN_VARIABLES[i]);
    }
  }

  private static void countFromNoneToAll() {
    for (Stores.Recipe order : Stores.ORDERS) {
      Counted x = order.make();
      CHECKS.due("no row", x.count(Stores.FALSE), 0);
      CHECKS.due("all rows", x.count(Stores.TRUE), 64);
      for (int v : EVEN_VARIABLES) {
        CHECKS.due("variable " + v, x.count(v), 32);
      }
      CHECKS.due("a choice", x.count(Stores.EVENS), 32);
      for (int first = 0; first < 64; first += 32) {
        Counted y = order.make();
        for (int row = first; row < first + 32; row++) {
          oneRow(y, row);
          y.join(OTHER, 1, OTHER, OUT);
          CHECKS.due("rows " + first + " to " + row, y.count(OTHER), row - first + 1);
        }
      }
      for (int row = 0; row < 64; row++) {
        Counted y = order.make();
        oneRow(y, row);
        CHECKS.due("row " + row + " alone", y.count(OUT), 1);
        y.join(OUT, 4, OUT, OUT);
        CHECKS.due("all but row " + row, y.count(OUT), 63);
      }
    }
  }

  private static void countRefusesTheOthers() {
    for (Stores.Recipe order : Stores.ORDERS) {
      for (int v = 1; v < 12; v += 2) {
        int odd = v;
        Counted x = order.make();
        CHECKS.dueThrow("variable " + v, () -> x.count(odd), Checks.UNSUPPORTED);
        x.join(OUT, 2, odd, odd - 1);
        CHECKS.dueThrow("with an even one", () -> x.count(OUT), Checks.UNSUPPORTED);
        oneRow(x, 63);
        x.join(OUT, 0, OUT, odd);
        CHECKS.dueThrow("where all even ones are true", () -> x.count(OUT), Checks.UNSUPPORTED);
        oneRow(x, 0);
        x.join(OUT, 0, OUT, odd);
        CHECKS.dueThrow("where no even one is true", () -> x.count(OUT), Checks.UNSUPPORTED);
        x.some(OUT, OUT, OUT, 1 << odd);
        CHECKS.due("it hangs on it no more", x.count(OUT), 1);
        x.join(OUT, 2, odd, odd);
        CHECKS.due("it never did", x.count(OUT), 0);
      }
      Counted x = order.make();
      CHECKS.dueThrow("all variables", () -> x.count(Stores.PAIRS), Checks.UNSUPPORTED);
      CHECKS.dueThrow("odd ones", () -> x.count(Stores.ODDS), Checks.UNSUPPORTED);
    }
  }

  private static void countRange() {
    Counted x = Stores.ORDERS[0].make();
    for (int slot : new int[] {-1, 32}) {
      dueIllegal("slot " + slot, () -> x.count(slot));
    }
  }

  private static void supportFromNoneToAll() {
    for (Stores.Recipe order : Stores.ORDERS) {
      Counted x = order.make();
      CHECKS.due("FALSE", x.support(Stores.FALSE), 0);
      CHECKS.due("TRUE", x.support(Stores.TRUE), 0);
      CHECKS.due("the last slot", x.support(Stores.LAST), 0);
      CHECKS.due("all", x.support(Stores.PAIRS), 4095);
      x.constant(OTHER, true);
      for (int v = 0; v < 12; v++) {
        CHECKS.due("variable " + v, x.support(v), 1 << v);
        x.join(OTHER, 2, OTHER, v);
        CHECKS.due("the first ones", x.support(OTHER), (2 << v) - 1);
      }
      for (int only : new int[] {0, 4095}) {
        Stores.oneWay(x, only);
        CHECKS.due("hangs on all for few ways", x.support(OUT), 4095);
      }
      for (int v = 0; v < 12; v++) {
        x.some(OTHER, OUT, OUT, 1 << v);
        CHECKS.due("all but " + v, x.support(OTHER), 4095 ^ 1 << v);
      }
    }
  }

  private static void supportRange() {
    Counted x = Stores.ORDERS[0].make();
    for (int slot : new int[] {-1, 32}) {
      dueIllegal("slot " + slot, () -> x.support(slot));
    }
  }

  private static void supportNoMore() {
    for (Stores.Recipe order : Stores.ORDERS) {
      Counted x = order.make();
      x.choose(OUT, 3, 8, 8);
      CHECKS.due("the choice does not matter", x.support(OUT), 1 << 8);
      x.join(OUT, 2, Stores.PAIRS, Stores.PAIRS);
      CHECKS.due("just one of it and itself", x.support(OUT), 0);
      x.join(OUT, 4, 6, 6);
      x.join(OUT, 1, OUT, 6);
      CHECKS.due("it or not it", x.support(OUT), 0);
      x.join(OUT, 2, Stores.PAIRS, 4);
      x.join(OUT, 2, OUT, Stores.PAIRS);
      CHECKS.due("all but one are gone", x.support(OUT), 1 << 4);
    }
  }

  private static void tidyCounts() {
    for (int what = 0; what < 3; what++) {
      Counted empty = new Counted();
      CHECKS.due("none, tidy(" + what + ")", empty.tidy(what), 0);
      Counted x = new Counted();
      for (int slot = 0; slot < 32; slot++) {
        x.variable(slot, slot % 12);
        CHECKS.due("up to " + slot, x.tidy(what), slot + 1);
      }
      for (int slot = 0; slot < 32; slot++) {
        x.constant(slot, true);
        CHECKS.due("TRUE counts", x.tidy(what), 32);
      }
      for (int slot = 0; slot < 32; slot++) {
        x.join(slot, 3, slot, slot);
        CHECKS.due("FALSE does not", x.tidy(what), 31 - slot);
      }
    }
    for (Stores.Recipe order : Stores.ORDERS) {
      for (int only : new int[] {0, 4095}) {
        Counted x = order.make();
        Stores.oneWay(x, only);
        CHECKS.due("true for one way alone", x.tidy(0), 17);
      }
    }
  }

  private static void tidyRange() {
    Counted x = Stores.ORDERS[0].make();
    int[] order = x.inside().order();
    for (int what : new int[] {-1, -2, 3, 4, 5, 256, 258, Integer.MIN_VALUE, Integer.MAX_VALUE}) {
      dueIllegal("tidy(" + what + ")", () -> x.tidy(what));
    }
    CHECKS.due("the order is as it was", Arrays.equals(x.inside().order(), order), true);
    for (int what = 0; what < 3; what++) {
      CHECKS.due("tidy(" + what + ")", x.tidy(what), 16);
    }
  }

  private static void tidyKeepsFunctions() {
    for (int i = 0; i < 3; i++) {
      int what = i;
      dueTruths("PAIRS after tidy(" + what + ")", x -> x.tidy(what), Stores.PAIRS, Stores::allPairs);
      dueTruths("EVENS after tidy(" + what + ")", x -> x.tidy(what), Stores.EVENS,
          way -> bit(way, bit(way, 0) ? 4 : 10));
      dueTruths("the first variable after tidy(" + what + ")", x -> x.tidy(what), 0, way -> bit(way, 0));
      dueTruths("the last variable after tidy(" + what + ")", x -> x.tidy(what), 11, way -> bit(way, 11));
      dueTruths("TRUE after tidy(" + what + ")", x -> x.tidy(what), Stores.TRUE, way -> true);
      dueTruths("FALSE after tidy(" + what + ")", x -> x.tidy(what), Stores.LAST, way -> false);
    }
  }

  private static void tidyThrowsAway() {
    for (Stores.Recipe order : Stores.ORDERS) {
      Counted x = order.make();
      x.join(OUT, 2, Stores.PAIRS, 0);
      x.join(OUT, 0, OUT, Stores.ODDS);
      x.constant(OUT, false);
      CHECKS.due("there is something to throw away", x.inside().size() > x.inside().needed(), true);
      x.tidy(0);
      CHECKS.due("all that is there is needed", x.inside().size(), x.inside().needed());
      int size = x.inside().size();
      x.tidy(0);
      CHECKS.due("nothing to throw away", x.inside().size(), size);
      for (int slot = 0; slot < 32; slot++) {
        x.constant(slot, slot % 2 == 1);
      }
      CHECKS.due("constants", x.tidy(0), 16);
      CHECKS.due("nothing is needed", x.inside().size(), 0);
    }
  }

  private static void tidySeeksLess() {
    Counted x = Stores.ORDERS[0].make();
    x.tidy(0);
    int before = x.inside().size();
    x.tidy(1);
    CHECKS.due("there is less", x.inside().size() < before, true);
    for (int again = 0; again < 5; again++) {
      before = x.inside().size();
      x.tidy(1);
      CHECKS.due("never more", x.inside().size() <= before, true);
    }
    Counted empty = new Counted();
    empty.tidy(1);
    CHECKS.due("nothing needs nothing", empty.inside().size(), 0);
  }

  private static void tidyNeverNeedsMore() {
    for (int seed = 0; seed < 60; seed++) {
      Random random = new Random(seed);
      Counted x = Stores.ORDERS[seed % 3].make();
      for (int i = 0; i < 10 + seed; i++) {
        x.choose(12 + random.nextInt(20), random.nextInt(32), random.nextInt(32), random.nextInt(32));
        x.join(12 + random.nextInt(20), random.nextInt(5), random.nextInt(32), random.nextInt(32));
        if (i % 8 == 7) {
          x.tidy(0);
          int before = x.inside().size();
          x.tidy(1);
          CHECKS.due("more than before, seed " + seed, Math.max(x.inside().size() - before, 0), 0);
        }
      }
    }
  }

  private static int selected(int slot, int i) {
    return 4 + (i * (slot % 4 * 2 + 1) + slot) % 8;
  }

  /** One of the variables 4 to 11, by the truths of 0, 1 and 2; the last two slots keep what is half done. */
  private static void select(Store x, int slot) {
    x.choose(slot, 2, selected(slot, 0), selected(slot, 1));
    x.choose(30, 2, selected(slot, 2), selected(slot, 3));
    x.choose(slot, 1, slot, 30);
    x.choose(30, 2, selected(slot, 4), selected(slot, 5));
    x.choose(31, 2, selected(slot, 6), selected(slot, 7));
    x.choose(30, 1, 30, 31);
    x.choose(slot, 0, slot, 30);
  }

  /** Slots 12 to 29: such functions; the others FALSE. */
  private static void selections(Store x) {
    for (int v = 0; v < 12; v++) {
      x.variable(v, v);
    }
    for (int slot = 12; slot < 30; slot++) {
      select(x, slot);
    }
    for (int slot = 30; slot < 44; slot++) {
      x.constant(slot % 32, false);
    }
  }

  /** What is small in one order and large in the other: the store grows while the order is turned. */
  private static void tidyGrows() {
    Store y = new TableStore();
    selections(y);
    Counted small = new Counted();
    selections(small);
    small.tidy(0);
    int before = small.inside().size();
    CHECKS.due("slots", small.tidy(2), 18);
    CHECKS.due("it has grown", small.inside().size() > 4 * before, true);
    CHECKS.due("wrong", small.wrong(), 0);
    for (int slot = 12; slot < 30; slot++) {
      int here = slot;
      CHECKS.due("ways that are off in slot " + slot, Stores.waysOff(Counted::new, x -> {
        selections(x);
        x.tidy(2);
      }, slot, way -> y.value(here, way)), 0);
    }
    System.out.println("tidyGrows: from " + before + " to " + small.inside().size() + " nodes");
  }

  private static void tidyTurnsRound() {
    for (Stores.Recipe order : Stores.ORDERS) {
      Counted x = order.make();
      int[] before = x.inside().order();
      x.tidy(2);
      int[] after = x.inside().order();
      for (int level = 0; level < 12; level++) {
        CHECKS.due("level " + level, after[level], before[11 - level]);
      }
      x.tidy(2);
      CHECKS.due("twice is as before", Arrays.equals(x.inside().order(), before), true);
    }
    Counted empty = new Counted();
    empty.tidy(2);
    CHECKS.due("in an empty store too", empty.inside().order()[0], 11);
  }

  private static void wrongIsNone() {
    CHECKS.due("a new object", new Counted().wrong(), 0);
    for (Stores.Recipe order : Stores.ORDERS) {
      Counted x = order.make();
      CHECKS.due("some functions", x.wrong(), 0);
      for (int round = 0; round < 9; round++) {
        x.tidy(round % 3);
        CHECKS.due("after tidy(" + round % 3 + ")", x.wrong(), 0);
        x.choose(OUT + round, Stores.PAIRS, round, 11 - round);
        CHECKS.due("after choose", x.wrong(), 0);
        x.turn(OUT + round, OUT + round);
        CHECKS.due("after turn", x.wrong(), 0);
        x.some(OUT + round, OUT + round, round, 1 << 11 - round);
        CHECKS.due("after some", x.wrong(), 0);
        CHECKS.dueThrow("a refused call", () -> x.tidy(3), Checks.ILLEGAL_ARGUMENT);
        CHECKS.due("after a refused call", x.wrong(), 0);
      }
    }
  }

  /** A node of 3 goes on to a node of 8 if the variable 3 is true (kind 0), or if it is false (kind 1). */
  private static void wrongSeesDisorder() {
    for (int kind = 0; kind < 2; kind++) {
      Counted x = new Counted();
      x.variable(0, 3);
      x.variable(1, 8);
      x.join(2, kind, 0, 1);
      CHECKS.due("in order", x.wrong(), 0);
      x.inside().levels()[3] = 8;
      CHECKS.due("on the same level, kind " + kind, x.wrong(), 1);
      x.inside().levels()[8] = 3;
      CHECKS.due("below what it goes on to, kind " + kind, x.wrong(), 1);
      x.inside().levels()[3] = 2;
      CHECKS.due("in order again", x.wrong(), 0);
    }
  }

  private static void wrongSeesTwins() {
    Counted x = Stores.ORDERS[0].make();
    int[] rows = x.inside().rows();
    int first = 0;
    for (int head : x.inside().heads()) {
      // a twin that does not come right behind
      if (head != 0 && rows[head * Inside.WIDTH + Inside.NEXT] != 0) {
        first = head;
      }
    }
    CHECKS.due("there is a chain of two", first != 0, true);
    CHECKS.due("each is there once", x.wrong(), 0);
    x.inside().addTwin(first);
    CHECKS.due("one is there twice", x.wrong(), 1);
    Counted y = new Counted();
    y.variable(0, 3);
    y.inside().addTwin(y.inside().slots()[0]);
    CHECKS.due("the only one is there twice", y.wrong(), 1);
  }

  /** A node that need not be there: in whichever chain it stands, it is one that is not in order. */
  private static void wrongSeesNeedlessNodes() {
    for (int v : new int[] {0, 11}) {
      Counted x = new Counted();
      x.variable(0, v);
      int node = x.inside().slots()[0];
      x.inside().rows()[node * Inside.WIDTH + Inside.HIGH] = 0;
      int[] heads = x.inside().heads();
      Arrays.fill(heads, 0);
      int chains = heads.length / 12;
      for (int head = v * chains; head < v * chains + chains; head++) {
        heads[head] = node;
        CHECKS.due("both ways go on to FALSE", x.wrong(), 1);
        heads[head] = 0;
      }
    }
  }

  public static void main(String[] args) {
    CHECKS.sentence("8: What a SLOT gives for a WAY", AskingBoundaryTest::valueOfEdges);
    CHECKS.sentence("8: a number out of range", AskingBoundaryTest::valueRange);
    CHECKS.sentence("8: asked again", AskingBoundaryTest::valueChangesNothing);
    CHECKS.sentence("9: Whether two SLOTS hold the same", AskingBoundaryTest::sameOrNot);
    CHECKS.sentence("9: a number out of range", AskingBoundaryTest::sameRange);
    CHECKS.sentence("9: the same FUNCTION, but for one WAY", AskingBoundaryTest::sameButForOneWay);
    CHECKS.sentence("9: the same FUNCTION, in another order", AskingBoundaryTest::sameInAnotherOrder);
    CHECKS.sentence("10: For how many rows of truths", AskingBoundaryTest::countFromNoneToAll);
    CHECKS.sentence("10: it hangs on one of the others", AskingBoundaryTest::countRefusesTheOthers);
    CHECKS.sentence("10: a number out of range", AskingBoundaryTest::countRange);
    CHECKS.sentence("11: The MASK of the VARIABLES", AskingBoundaryTest::supportFromNoneToAll);
    CHECKS.sentence("11: on which a SLOT hangs", AskingBoundaryTest::supportNoMore);
    CHECKS.sentence("11: a number out of range", AskingBoundaryTest::supportRange);
    CHECKS.sentence("12: 0: what is not needed is thrown away", AskingBoundaryTest::tidyThrowsAway);
    CHECKS.sentence("12: 1: an order that needs less is sought", AskingBoundaryTest::tidySeeksLess);
    CHECKS.sentence("12: 1: needs less, never more", AskingBoundaryTest::tidyNeverNeedsMore);
    CHECKS.sentence("12: 2: the order is turned round", AskingBoundaryTest::tidyTurnsRound);
    CHECKS.sentence("12: 2: in a store that grows by it", AskingBoundaryTest::tidyGrows);
    CHECKS.sentence("12: how many SLOTS are not FALSE", AskingBoundaryTest::tidyCounts);
    CHECKS.sentence("12: what 0 .. 2", AskingBoundaryTest::tidyRange);
    CHECKS.sentence("12: (the SLOTS hold what they held)", AskingBoundaryTest::tidyKeepsFunctions);
    CHECKS.sentence("13: 0 in a store that is right", AskingBoundaryTest::wrongIsNone);
    CHECKS.sentence("13: How many nodes are not in order", AskingBoundaryTest::wrongSeesDisorder);
    CHECKS.sentence("13: or there twice", AskingBoundaryTest::wrongSeesTwins);
    CHECKS.sentence("13: not in order: needless", AskingBoundaryTest::wrongSeesNeedlessNodes);
    CHECKS.end("AskingBoundaryTest");
  }
}
