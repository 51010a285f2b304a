/** Each sentence of the promises 1 to 7 that names a boundary case has a test of its own here. */
public final class MakingBoundaryTest {
  private static final Checks CHECKS = new Checks();
  private static final int OUT = Stores.OUT;
  private static final int OTHER = Stores.OTHER;

  private static void dueIllegal(String what, Checks.Call call) {
    CHECKS.dueThrow(what, call, Checks.ILLEGAL_ARGUMENT);
  }

  private static boolean bit(int way, int v) {
    return Stores.bit(way, v);
  }

  private static void dueTruths(String what, Stores.Work work, int slot, Stores.Rule rule) {
    CHECKS.due(what + ", ways that are off", Stores.waysOffInAllOrders(work, slot, rule), 0);
  }

  /** What stands in the other slots stays, in each of three orders. */
  private static void dueOthersStay(String what, Stores.Work work, int slot) {
    for (Stores.Recipe order : Stores.ORDERS) {
      Counted x = order.make();
      work.on(x);
      for (int other = 0; other < 32; other++) {
        int mask = other < 12 ? 1 << other : other == Stores.PAIRS ? 4095 : other == Stores.EVENS ? 0x411
            : other == Stores.ODDS ? 0x822 : 0;
        if (other != slot) {
          CHECKS.due(what + ", slot " + other, x.support(other), mask);
        }
        if (other != slot && mask == 0) {
          CHECKS.due(what + ", slot " + other, x.value(other, 0), other == Stores.TRUE);
        }
      }
    }
  }

  private static void newObject() {
    Counted x = new Counted();
    for (int slot = 0; slot < 32; slot++) {
      CHECKS.due("same as slot 0", x.same(slot, 0), true);
      CHECKS.due("support", x.support(slot), 0);
      CHECKS.due("count", x.count(slot), 0);
      CHECKS.due("value of the first way", x.value(slot, 0), false);
      CHECKS.due("value of the last way", x.value(slot, 4095), false);
      CHECKS.due("FALSE again is no other one", x.join(slot, 0, slot, slot), false);
    }
    CHECKS.due("SLOTS that are not FALSE", x.tidy(0), 0);
    CHECKS.due("nodes", x.inside().size(), 0);
  }

  private static void newObjectsShareNothing() {
    Counted x = new Counted();
    Counted y = new Counted();
    x.constant(0, true);
    x.variable(31, 11);
    CHECKS.due("the other object's first slot", y.value(0, 0), false);
    CHECKS.due("the other object's last slot", y.support(31), 0);
    CHECKS.due("a third object", new Counted().tidy(0), 0);
    CHECKS.due("the first object", x.tidy(0), 2);
  }

  private static void constantIntoEachSlot() {
    for (int slot = 0; slot < 32; slot++) {
      int here = slot;
      dueOthersStay("constant(" + slot + ")", x -> x.constant(here, true), slot);
      for (Stores.Recipe order : Stores.ORDERS) {
        Counted x = order.make();
        x.constant(slot, true);
        CHECKS.due("TRUE in " + slot, x.support(slot) == 0 && x.value(slot, 0), true);
        x.constant(slot, false);
        CHECKS.due("FALSE in " + slot, x.support(slot) == 0 && !x.value(slot, 0), true);
      }
    }
  }

  private static void constantRange() {
    for (int slot : new int[] {-1, 32}) {
      dueIllegal("constant(" + slot + ", true)", () -> new Counted().constant(slot, true));
      dueIllegal("constant(" + slot + ", false)", () -> new Counted().constant(slot, false));
    }
  }

  private static void constantForEachWay() {
    dueTruths("true over FALSE", x -> x.constant(Stores.LAST, true), Stores.LAST, way -> true);
    dueTruths("true over itself", x -> x.constant(Stores.TRUE, true), Stores.TRUE, way -> true);
    dueTruths("true over a function", x -> x.constant(Stores.PAIRS, true), Stores.PAIRS, way -> true);
    dueTruths("false over TRUE", x -> x.constant(Stores.TRUE, false), Stores.TRUE, way -> false);
    dueTruths("false over a function", x -> x.constant(Stores.PAIRS, false), Stores.PAIRS, way -> false);
    dueTruths("false over itself", x -> x.constant(0, false), 0, way -> false);
  }

  private static void variableRange() {
    Counted x = new Counted();
    for (int v = 0; v < 12; v++) {
      x.variable(31 - v, v);
      CHECKS.due("variable " + v, x.support(31 - v), 1 << v);
    }
    // 32 would be the first variable for a shift
    for (int v : new int[] {-1, 12, 13, 32, 44, 256, -32, Integer.MIN_VALUE, Integer.MAX_VALUE}) {
      dueIllegal("variable(0, " + v + ")", () -> x.variable(0, v));
    }
    for (int slot : new int[] {-1, 32}) {
      dueIllegal("variable(" + slot + ", 0)", () -> x.variable(slot, 0));
    }
  }

  private static void variableForEachWay() {
    for (int v = 0; v < 12; v++) {
      int asked = v;
      dueTruths("variable " + v, x -> x.variable(Stores.LAST, asked), Stores.LAST, way -> bit(way, asked));
    }
    dueTruths("over another", x -> x.variable(0, 11), 0, way -> bit(way, 11));
    dueOthersStay("variable(31, 0)", x -> x.variable(31, 0), 31);
  }

  private static void chooseByItsFirst() {
    dueTruths("choose", x -> x.choose(OUT, 5, 0, 11), OUT, way -> bit(way, bit(way, 5) ? 0 : 11));
    dueTruths("f true everywhere", x -> x.choose(OUT, Stores.TRUE, 0, 11), OUT, way -> bit(way, 0));
    dueTruths("f true nowhere", x -> x.choose(OUT, Stores.FALSE, 0, 11), OUT, way -> bit(way, 11));
    for (int only : new int[] {0, 4095}) {
      dueTruths("f true only for " + only, x -> {
        Stores.oneWay(x, only);
        x.choose(OUT, OUT, Stores.TRUE, 3);
      }, OUT, way -> way == only || bit(way, 3));
      dueTruths("f false only for " + only, x -> {
        Stores.oneWay(x, only);
        x.join(OUT, 4, OUT, OUT);
        x.choose(OUT, OUT, 3, Stores.FALSE);
      }, OUT, way -> way != only && bit(way, 3));
    }
    dueTruths("all constant", x -> x.choose(OUT, Stores.TRUE, Stores.FALSE, Stores.TRUE), OUT, way -> false);
  }

  private static void chooseAsTheyWere() {
    dueTruths("into f", x -> x.choose(5, 5, 0, 11), 5, way -> bit(way, bit(way, 5) ? 0 : 11));
    dueTruths("into g", x -> x.choose(0, 5, 0, 11), 0, way -> bit(way, bit(way, 5) ? 0 : 11));
    dueTruths("into h", x -> x.choose(11, 5, 0, 11), 11, way -> bit(way, bit(way, 5) ? 0 : 11));
    dueTruths("all the same slot", x -> x.choose(5, 5, 5, 5), 5, way -> bit(way, 5));
    dueTruths("f and g", x -> x.choose(5, 5, 5, 11), 5, way -> bit(way, 5) || bit(way, 11));
    dueTruths("f and h", x -> x.choose(5, 5, 0, 5), 5, way -> bit(way, 5) && bit(way, 0));
    dueTruths("g and h", x -> x.choose(0, 5, 0, 0), 0, way -> bit(way, 0));
    dueOthersStay("choose", x -> x.choose(31, 5, 0, 11), 31);
  }

  private static void chooseRange() {
    for (int slot : new int[] {-1, 32}) {
      Counted x = Stores.ORDERS[0].make();
      dueIllegal("slot " + slot, () -> x.choose(slot, 1, 2, 3));
      dueIllegal("f " + slot, () -> x.choose(0, slot, 2, 3));
      dueIllegal("g " + slot, () -> x.choose(0, 1, slot, 3));
      dueIllegal("h " + slot, () -> x.choose(0, 1, 2, slot));
      // the branch that is never met must be a slot too
      dueIllegal("g where f is FALSE", () -> x.choose(0, Stores.FALSE, slot, 3));
      dueIllegal("h where f is TRUE", () -> x.choose(0, Stores.TRUE, 2, slot));
    }
  }

  private static void chooseAnswers() {
    for (Stores.Recipe order : Stores.ORDERS) {
      Counted x = order.make();
      CHECKS.due("FALSE, now another", x.choose(OUT, 5, 0, 11), true);
      CHECKS.due("the same again", x.choose(OUT, 5, 0, 11), false);
      x.join(OTHER, 4, 5, 5);
      CHECKS.due("the same in other words", x.choose(OUT, OTHER, 11, 0), false);
      x.tidy(2);
      CHECKS.due("the same in another order", x.choose(OUT, 5, 0, 11), false);
      CHECKS.due("FALSE over FALSE", x.choose(30, Stores.FALSE, 5, 30), false);
      CHECKS.due("TRUE over FALSE", x.choose(30, Stores.TRUE, Stores.TRUE, 5), true);
      CHECKS.due("TRUE over TRUE", x.choose(30, 30, 30, 5), false);
      CHECKS.due("FALSE over TRUE", x.choose(30, 30, Stores.FALSE, 30), true);
      CHECKS.due("itself", x.choose(5, 5, 5, 5), false);
      for (int only : new int[] {0, 4095}) {
        Counted y = order.make();
        Stores.oneWay(y, only);
        CHECKS.due("another for way " + only + " alone", y.choose(Stores.LAST, OUT, OUT, OUT), true);
        CHECKS.due("no other one", y.choose(Stores.LAST, OUT, OUT, Stores.FALSE), false);
      }
    }
  }

  private static boolean joined(int kind, boolean f, boolean g) {
    return kind == 0 ? f && g : kind == 1 ? f || g : kind == 2 ? f != g : kind == 3 ? f && !g : !f;
  }

  private static void joinEachKind() {
    for (int k = 0; k < 5; k++) {
      int kind = k;
      String name = "kind " + kind;
      dueTruths(name, x -> x.join(OUT, kind, 0, 11), OUT, way -> joined(kind, bit(way, 0), bit(way, 11)));
      dueTruths(name + " the other way round", x -> x.join(OUT, kind, 11, 0), OUT,
          way -> joined(kind, bit(way, 11), bit(way, 0)));
      dueTruths(name + " with itself", x -> x.join(OUT, kind, 7, 7), OUT,
          way -> joined(kind, bit(way, 7), bit(way, 7)));
      dueTruths(name + " with TRUE", x -> x.join(OUT, kind, 7, Stores.TRUE), OUT,
          way -> joined(kind, bit(way, 7), true));
      dueTruths(name + " with FALSE", x -> x.join(OUT, kind, 7, Stores.FALSE), OUT,
          way -> joined(kind, bit(way, 7), false));
      dueTruths(name + " of TRUE", x -> x.join(OUT, kind, Stores.TRUE, 7), OUT,
          way -> joined(kind, true, bit(way, 7)));
      dueTruths(name + " of FALSE", x -> x.join(OUT, kind, Stores.FALSE, 7), OUT,
          way -> joined(kind, false, bit(way, 7)));
      dueTruths(name + " into f", x -> x.join(0, kind, 0, 11), 0, way -> joined(kind, bit(way, 0), bit(way, 11)));
      dueTruths(name + " into g", x -> x.join(11, kind, 0, 11), 11, way -> joined(kind, bit(way, 0), bit(way, 11)));
      dueOthersStay(name, x -> x.join(31, kind, 0, 11), 31);
    }
  }

  private static void joinNotWithAnySlot() {
    for (Stores.Recipe order : Stores.ORDERS) {
      Counted x = order.make();
      x.join(OTHER, 4, 3, 3);
      for (int g = 0; g < 32; g++) {
        CHECKS.due("not with g " + g, x.join(OUT, 4, 3, g), g == 0);
        CHECKS.due("not with g " + g, x.same(OUT, OTHER), true);
      }
      for (int g : new int[] {-1, 32, 33, Integer.MIN_VALUE, Integer.MAX_VALUE}) {
        dueIllegal("not with g " + g, () -> x.join(OUT, 4, 3, g));
      }
    }
  }

  private static void joinNoOtherKind() {
    Counted x = Stores.ORDERS[0].make();
    for (int kind : new int[] {-1, -4, 5, 6, 7, 8, 32, 256, Integer.MIN_VALUE, Integer.MAX_VALUE}) {
      dueIllegal("kind " + kind, () -> x.join(0, kind, 1, 2));
    }
    for (int kind = 0; kind < 5; kind++) {
      int known = kind;
      for (int slot : new int[] {-1, 32}) {
        dueIllegal("slot " + slot, () -> x.join(slot, known, 1, 2));
        dueIllegal("f " + slot, () -> x.join(0, known, slot, 2));
        dueIllegal("g " + slot, () -> x.join(0, known, 1, slot));
      }
    }
    CHECKS.due("nothing is changed", x.support(0), 1);
  }

  private static void joinAnswers() {
    for (Stores.Recipe order : Stores.ORDERS) {
      for (int kind = 0; kind < 5; kind++) {
        Counted x = order.make();
        CHECKS.due("another, kind " + kind, x.join(OUT, kind, 4, 8), true);
        CHECKS.due("the same, kind " + kind, x.join(OUT, kind, 4, 8), false);
        x.tidy(2);
        CHECKS.due("the same in another order, kind " + kind, x.join(OUT, kind, 4, 8), false);
      }
      Counted x = order.make();
      CHECKS.due("FALSE and FALSE", x.join(OUT, 0, OUT, OUT), false);
      CHECKS.due("not FALSE", x.join(OUT, 4, OUT, OUT), true);
      CHECKS.due("TRUE or TRUE", x.join(OUT, 1, OUT, OUT), false);
      CHECKS.due("not TRUE", x.join(OUT, 4, OUT, OUT), true);
      CHECKS.due("itself and itself", x.join(5, 0, 5, 5), false);
      CHECKS.due("itself and not itself", x.join(5, 3, 5, 5), true);
      CHECKS.due("that is FALSE", x.same(5, Stores.FALSE), true);
    }
  }

  private static void someForNoVariable() {
    dueTruths("f and g", x -> x.some(OUT, Stores.PAIRS, 0, 0), OUT, way -> Stores.allPairs(way) && bit(way, 0));
    dueTruths("f and f", x -> x.some(OUT, 3, 3, 0), OUT, way -> bit(way, 3));
    dueTruths("with FALSE", x -> x.some(OUT, 3, Stores.FALSE, 0), OUT, way -> false);
    dueTruths("with TRUE", x -> x.some(OUT, Stores.TRUE, 3, 0), OUT, way -> bit(way, 3));
  }

  private static void someForAllVariables() {
    for (int only : new int[] {0, 4095}) {
      dueTruths("true for way " + only + " alone", x -> {
        Stores.oneWay(x, only);
        x.some(OUT, OUT, OUT, 4095);
      }, OUT, way -> true);
    }
    dueTruths("never true", x -> x.some(OUT, Stores.FALSE, Stores.TRUE, 4095), OUT, way -> false);
    dueTruths("always true", x -> x.some(OUT, Stores.TRUE, Stores.TRUE, 4095), OUT, way -> true);
  }

  private static void someForBoth() {
    Stores.Work apart = x -> {
      x.join(OTHER, 4, 6, 6);
      x.some(OUT, 6, OTHER, 4095);
    };
    dueTruths("each is true, but never both", apart, OUT, way -> false);
    dueTruths("not the one that differs in another variable", x -> x.some(OUT, 6, 7, 1 << 7), OUT,
        way -> bit(way, 6));
  }

  private static void someForTheMaskAlone() {
    for (int v = 0; v < 12; v++) {
      int one = v;
      dueTruths("variable " + v + " alone", x -> x.some(OUT, Stores.PAIRS, one, 1 << one), OUT,
          way -> Stores.allPairs(way | 1 << one));
      dueTruths("all but variable " + v, x -> x.some(OUT, Stores.PAIRS, one, 4095 ^ 1 << one), OUT,
          way -> bit(way, one));
    }
    dueTruths("variables that it does not hang on", x -> x.some(OUT, Stores.EVENS, Stores.EVENS, 4095 ^ 0x411), OUT,
        way -> bit(way, bit(way, 0) ? 4 : 10));
    dueTruths("the first and the last", x -> x.some(OUT, 0, 11, 0x801), OUT, way -> true);
    dueTruths("two of a pair", x -> x.some(OUT, Stores.PAIRS, Stores.PAIRS, 0x41), OUT,
        way -> ((way & 63 ^ way >> 6) | 1) == 63);
    dueTruths("into f", x -> x.some(0, 0, 11, 1), 0, way -> bit(way, 11));
    dueTruths("into g", x -> x.some(11, 0, 11, 1), 11, way -> bit(way, 11));
    dueOthersStay("some", x -> x.some(31, 0, 11, 1), 31);
  }

  private static void someRange() {
    Counted x = Stores.ORDERS[0].make();
    for (int mask : new int[] {-1, 4096, 4097, 8191, 65536, Integer.MIN_VALUE, Integer.MAX_VALUE}) {
      dueIllegal("mask " + mask, () -> x.some(0, 1, 2, mask));
    }
    for (int slot : new int[] {-1, 32}) {
      dueIllegal("slot " + slot, () -> x.some(slot, 1, 2, 3));
      dueIllegal("f " + slot, () -> x.some(0, slot, 2, 3));
      dueIllegal("g " + slot, () -> x.some(0, 1, slot, 3));
      dueIllegal("g where f is FALSE", () -> x.some(0, Stores.FALSE, slot, 0));
    }
    CHECKS.due("nothing is changed", x.support(0), 1);
  }

  private static void someAnswers() {
    for (Stores.Recipe order : Stores.ORDERS) {
      Counted x = order.make();
      CHECKS.due("another", x.some(OUT, Stores.PAIRS, 0, 1), true);
      CHECKS.due("the same", x.some(OUT, Stores.PAIRS, 0, 1), false);
      x.tidy(2);
      CHECKS.due("the same in another order", x.some(OUT, 0, Stores.PAIRS, 1), false);
      CHECKS.due("FALSE over FALSE", x.some(30, 5, Stores.FALSE, 4095), false);
      CHECKS.due("itself for no variable", x.some(5, 5, 5, 0), false);
      CHECKS.due("itself for all others", x.some(5, 5, 5, 4095 ^ 32), false);
      CHECKS.due("for itself", x.some(5, 5, 5, 32), true);
      CHECKS.due("TRUE for all", x.some(5, 5, 5, 4095), false);
    }
  }

  private static int turned(int way) {
    return (way & 0x555) << 1 | way >> 1 & 0x555;
  }

  private static void turnEachPair() {
    for (int v = 0; v < 12; v++) {
      int one = v;
      dueTruths("variable " + v, x -> x.turn(OUT, one), OUT, way -> bit(way, one ^ 1));
    }
    dueTruths("all of them", x -> x.turn(OUT, Stores.PAIRS), OUT, way -> Stores.allPairs(turned(way)));
    dueTruths("some of them", x -> {
      x.choose(OUT, 1, 2, 10);
      x.choose(OUT, OUT, 0, 5);
      x.turn(OUT, OUT);
    }, OUT, way -> bit(way, bit(way, bit(way, 0) ? 3 : 11) ? 1 : 4));
    for (int only : new int[] {0, 1, 2048, 0x555, 0x927, 4095}) {
      dueTruths("true for " + only + " alone", x -> {
        Stores.oneWay(x, only);
        x.turn(Stores.LAST, OUT);
      }, Stores.LAST, way -> turned(way) == only);
    }
    dueTruths("FALSE", x -> x.turn(OUT, Stores.FALSE), OUT, way -> false);
    dueTruths("TRUE", x -> x.turn(OUT, Stores.TRUE), OUT, way -> true);
    dueTruths("twice is as before", x -> {
      x.turn(OUT, Stores.EVENS);
      x.turn(OUT, OUT);
    }, OUT, way -> bit(way, bit(way, 0) ? 4 : 10));
    dueOthersStay("turn", x -> x.turn(31, Stores.PAIRS), 31);
  }

  private static void turnRange() {
    Counted x = Stores.ORDERS[0].make();
    for (int slot : new int[] {-1, 32}) {
      dueIllegal("slot " + slot, () -> x.turn(slot, 0));
      dueIllegal("f " + slot, () -> x.turn(0, slot));
    }
    CHECKS.due("nothing is changed", x.support(0), 1);
  }

  private static void turnAnswers() {
    for (Stores.Recipe order : Stores.ORDERS) {
      Counted x = order.make();
      CHECKS.due("another", x.turn(OUT, 3), true);
      CHECKS.due("the same", x.turn(OUT, 3), false);
      CHECKS.due("in place", x.turn(OUT, OUT), true);
      x.join(OUT, 2, 10, 11);
      CHECKS.due("what is alike from both sides", x.turn(OUT, OUT), false);
      CHECKS.due("FALSE", x.turn(30, 30), false);
      CHECKS.due("TRUE", x.turn(Stores.TRUE, Stores.TRUE), false);
      x.turn(OTHER, Stores.EVENS);
      CHECKS.due("even ones turned are odd ones", x.same(OTHER, Stores.ODDS), true);
    }
  }

  private static void promises1To4() {
    CHECKS.sentence("1: All SLOTS hold FALSE", MakingBoundaryTest::newObject);
    CHECKS.sentence("1: All SLOTS, of each object", MakingBoundaryTest::newObjectsShareNothing);
    CHECKS.sentence("2: slot 0 .. 31 (so for all)", MakingBoundaryTest::constantIntoEachSlot);
    CHECKS.sentence("2: a number out of range", MakingBoundaryTest::constantRange);
    CHECKS.sentence("2: gives always yes", MakingBoundaryTest::constantForEachWay);
    CHECKS.sentence("3: v 0 .. 11", MakingBoundaryTest::variableRange);
    CHECKS.sentence("3: gives what VARIABLE v is", MakingBoundaryTest::variableForEachWay);
    CHECKS.sentence("4: g where f is true, h elsewhere", MakingBoundaryTest::chooseByItsFirst);
    CHECKS.sentence("4: f, g, h SLOTS as they were", MakingBoundaryTest::chooseAsTheyWere);
    CHECKS.sentence("4: a number out of range", MakingBoundaryTest::chooseRange);
    CHECKS.sentence("4: Answers whether it is another one", MakingBoundaryTest::chooseAnswers);
  }

  private static void promises5To7() {
    CHECKS.sentence("5: kind 0 .. 4", MakingBoundaryTest::joinEachKind);
    CHECKS.sentence("5: not f (g any SLOT, but one)", MakingBoundaryTest::joinNotWithAnySlot);
    CHECKS.sentence("5: no other kind", MakingBoundaryTest::joinNoOtherKind);
    CHECKS.sentence("5: Answers likewise", MakingBoundaryTest::joinAnswers);
    CHECKS.sentence("6: the empty MASK", MakingBoundaryTest::someForNoVariable);
    CHECKS.sentence("6: the full MASK", MakingBoundaryTest::someForAllVariables);
    CHECKS.sentence("6: f and g are both true for one", MakingBoundaryTest::someForBoth);
    CHECKS.sentence("6: in VARIABLES of the MASK alone", MakingBoundaryTest::someForTheMaskAlone);
    CHECKS.sentence("6: a number out of range", MakingBoundaryTest::someRange);
    CHECKS.sentence("6: Answers likewise", MakingBoundaryTest::someAnswers);
    CHECKS.sentence("7: 0 and 1, 2 and 3, .., 10 and 11", MakingBoundaryTest::turnEachPair);
    CHECKS.sentence("7: a number out of range", MakingBoundaryTest::turnRange);
    CHECKS.sentence("7: Answers likewise", MakingBoundaryTest::turnAnswers);
  }

  public static void main(String[] args) {
    promises1To4();
    promises5To7();
    CHECKS.end("MakingBoundaryTest");
  }
}
