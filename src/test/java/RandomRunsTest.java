import java.util.Random;

/** Long runs of calls, each compared with what a store of plain tables answers. */
public final class RandomRunsTest {
  private static final Checks CHECKS = new Checks();
  private static final int CALLS = 512;

  private static int near(Random random, int bound) {
    // now and then just out of range, or far
    switch (random.nextInt(200)) {
      case 0:
        return -1;
      case 1:
        return bound;
      case 2:
        return random.nextInt();
      default:
        return random.nextInt(bound);
    }
  }

  private static long asked(DiagramStore x, TableStore y, boolean real, int call, int[] a) {
    switch (call) {
      case 0:
        if (real) x.constant(a[0], (a[4] & 1) == 1); else y.constant(a[0], (a[4] & 1) == 1);
        return 0;
      case 1:
        if (real) x.variable(a[0], a[5]); else y.variable(a[0], a[5]);
        return 0;
      case 2:
        return (real ? x.choose(a[0], a[1], a[2], a[3]) : y.choose(a[0], a[1], a[2], a[3])) ? 1 : 0;
      case 3:
        return (real ? x.join(a[0], a[6], a[1], a[2]) : y.join(a[0], a[6], a[1], a[2])) ? 1 : 0;
      case 4:
        return (real ? x.some(a[0], a[1], a[2], a[4]) : y.some(a[0], a[1], a[2], a[4])) ? 1 : 0;
      case 5:
        return (real ? x.turn(a[0], a[1]) : y.turn(a[0], a[1])) ? 1 : 0;
      case 6:
        return (real ? x.value(a[0], a[4]) : y.value(a[0], a[4])) ? 1 : 0;
      case 7:
        return (real ? x.same(a[0], a[1]) : y.same(a[0], a[1])) ? 1 : 0;
      case 8:
        return real ? x.count(a[0]) : y.count(a[0]);
      case 9:
        return real ? x.support(a[0]) : y.support(a[0]);
      case 10:
        return real ? x.tidy(a[7]) : y.tidy(a[7]);
      default:
        return real ? x.wrong() : y.wrong();
    }
  }

  private static long outcome(DiagramStore x, TableStore y, boolean real, int call, int[] a) {
    long[] answer = new long[1];
    int thrown = Checks.thrown(() -> answer[0] = asked(x, y, real, call, a));
    return thrown == Checks.NOTHING ? answer[0] : -1 - thrown;
  }

  private static void allWays(String name, DiagramStore x, TableStore y) {
    for (int slot = 0; slot < 32; slot++) {
      for (int way = 0; way < 4096; way++) {
        if (x.value(slot, way) != y.value(slot, way)) {
          CHECKS.due(name + ": value(" + slot + ", " + way + ")", x.value(slot, way), y.value(slot, way));
        }
      }
    }
  }

  /** The weights say how often each of the twelve calls is made. */
  private static void run(int seed, int[] weights, int slots, int variables, int calls) {
    Random random = new Random(seed);
    DiagramStore x = new DiagramStore();
    TableStore y = new TableStore();
    Inside inside = new Inside(x);
    int sum = 0;
    for (int weight : weights) {
      sum += weight;
    }
    for (int i = 0; i < calls; i++) {
      int drawn = random.nextInt(sum);
      int call = 0;
      while (drawn >= weights[call]) {
        drawn -= weights[call];
        call++;
      }
      int mask = 0;
      for (int k = random.nextInt(4); k > 0; k--) {
        mask |= 1 << random.nextInt(12);
      }
      int way = random.nextInt(3) == 0 ? mask : near(random, 4096);
      int[] a = {near(random, slots), near(random, slots), near(random, slots), near(random, slots), way,
          random.nextInt(60) == 0 ? 12 : random.nextInt(variables), near(random, 5), near(random, 3)};
      if (i < variables) {
        call = 1;
        a[0] = i;
        a[5] = variables == 6 ? 2 * i : i;
      } else if (variables == 6 && call == 1) {
        a[5] *= 2;
      }
      String name = "seed " + seed + ", call " + i + " (" + call + ")";
      CHECKS.due(name, outcome(x, y, true, call, a), outcome(x, y, false, call, a));
      if (call == 10 || i % 16 == 0) {
        CHECKS.due(name + ": wrong()", x.wrong(), 0);
        CHECKS.due(name + ": wrong references", inside.wrongReferences(), 0);
      }
      if (call == 10 && a[7] >= 0 && a[7] < 3) {
        CHECKS.due(name + ": what is there after tidy", inside.size(), inside.needed());
        CHECKS.due(name + ": free slots", x.tidy(0), y.tidy(0));
      }
    }
    allWays("seed " + seed, x, y);
    CHECKS.due("seed " + seed + ": the room", inside.fieldsAndElements() < 150000, true);
  }

  public static void main(String[] args) {
    int[] even = {2, 4, 8, 16, 6, 4, 4, 4, 4, 4, 5, 2};
    int[] large = {0, 1, 30, 30, 1, 10, 1, 1, 1, 1, 1, 1};
    int[] small = {6, 12, 6, 16, 12, 6, 4, 6, 8, 6, 5, 2};
    for (int seed = 0; seed < 60; seed++) {
      run(seed, even, 32, 12, CALLS);
      run(1000 + seed, small, 32, 6, CALLS);
      run(3000 + seed, even, 8, 6, CALLS);
    }
    for (int seed = 0; seed < 12; seed++) {
      run(2000 + seed, large, 32, 12, CALLS);
    }
    run(4000, large, 32, 12, 6 * CALLS);
    CHECKS.end("RandomRunsTest");
  }
}
