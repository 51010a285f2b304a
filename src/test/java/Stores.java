/** Stores in three orders of the variables, and questions that tell two stores apart. */
final class Stores {
  interface Recipe {
    Counted make();
  }

  interface Work {
    void on(Store x);
  }

  interface Rule {
    boolean truthFor(int way);
  }

  /** What the slots of a prepared store hold: 0 to 11 the variables, then these; the others FALSE. */
  static final int TRUE = 12;
  static final int PAIRS = 13;
  static final int EVENS = 14;
  static final int ODDS = 15;
  static final int FALSE = 16;
  static final int LAST = 31;

  /** Two that are free to work with. */
  static final int OUT = 20;
  static final int OTHER = 21;

  static final Recipe[] ORDERS = {Stores::straight, Stores::turnedRound, Stores::sought};

  private static final int[] SOME_WAYS = {0, 1, 0x555, 0xAAA, 0x9C5, 2048, 4095};

  private Stores() {
  }

  /** PAIRS: v and v + 6 differ for each v; the order of the numbers is a bad one for it. */
  static void prepare(Store x) {
    for (int v = 0; v < 12; v++) {
      x.variable(v, v);
    }
    x.constant(TRUE, true);
    x.constant(PAIRS, true);
    for (int v = 0; v < 6; v++) {
      x.join(LAST, 2, v, v + 6);
      x.join(PAIRS, 0, PAIRS, LAST);
    }
    x.constant(LAST, false);
    x.choose(EVENS, 0, 4, 10);
    x.choose(ODDS, 1, 5, 11);
  }

  private static Counted straight() {
    Counted x = new Counted();
    prepare(x);
    return x;
  }

  private static Counted turnedRound() {
    Counted x = straight();
    x.tidy(2);
    return x;
  }

  private static Counted sought() {
    Counted x = straight();
    x.tidy(1);
    return x;
  }

  /** For how many of all ways a slot does not give what the rule says, after some work. */
  static int waysOff(Recipe recipe, Work work, int slot, Rule rule) {
    int off = 0;
    int way = 0;
    while (way < 4096) {
      // one object has not calls enough for all ways
      Counted x = recipe.make();
      work.on(x);
      for (; way < 4096 && x.left() > 0; way++) {
        if (x.value(slot, way) != rule.truthFor(way)) {
          off++;
        }
      }
    }
    return off;
  }

  static int waysOffInAllOrders(Work work, int slot, Rule rule) {
    int off = 0;
    for (Recipe order : ORDERS) {
      off += waysOff(order, work, slot, rule);
    }
    return off;
  }

  /** What PAIRS gives for a way. */
  static boolean allPairs(int way) {
    return (way & 63 ^ way >> 6) == 63;
  }

  /** Puts into OUT the function that is true for one way alone. */
  static void oneWay(Store x, int way) {
    x.constant(OUT, true);
    for (int v = 0; v < 12; v++) {
      x.join(OUT, bit(way, v) ? 0 : 3, OUT, v);
    }
  }

  static boolean bit(int way, int v) {
    return (way >> v & 1) == 1;
  }

  /** What a store answers to some 350 questions about all slots. */
  static long[] answers(Store x) {
    long[] answers = new long[32 * 11 + 2];
    int at = 0;
    for (int slot = 0; slot < 32; slot++) {
      answers[at++] = x.support(slot);
      answers[at++] = x.same(slot, (slot + 1) % 32) ? 1 : 0;
      answers[at++] = x.same(slot, PAIRS) ? 1 : 0;
      answers[at++] = Calls.outcome(x, Calls.COUNT, new int[] {slot});
      for (int way : SOME_WAYS) {
        answers[at++] = x.value(slot, way) ? 1 : 0;
      }
    }
    answers[at++] = x.tidy(0);
    answers[at++] = x.wrong();
    return answers;
  }
}
