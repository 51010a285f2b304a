import java.util.Random;

/** Runs of 512 calls, each compared with what a store of plain tables answers. */
public final class RandomRunsTest {
  private static final Checks CHECKS = new Checks();

  private static int near(Random random, int bound) {
    // now and then just out of range, or far
    switch (random.nextInt(200)) {
      case 0:
        return -1;
      case 1:
        return bound;
      case 2:
        return random.nextInt();
      default:
        return random.nextInt(bound);
    }
  }

  /** The weights say how often each of the twelve calls is made. */
  private static void run(int seed, int[] weights, int slots, int variables) {
    Random random = new Random(seed);
    Counted x = new Counted();
    TableStore y = new TableStore();
    Inside inside = x.inside();
    int sum = 0;
    for (int weight : weights) {
      sum += weight;
    }
    for (int i = 0; x.left() > 0; i++) {
      int drawn = random.nextInt(sum);
      int call = 0;
      while (drawn >= weights[call]) {
        drawn -= weights[call];
        call++;
      }
      int mask = 0;
      for (int k = random.nextInt(4); k > 0; k--) {
        mask |= 1 << random.nextInt(12);
      }
      int way = random.nextInt(3) == 0 ? mask : near(random, 4096);
      int[] a = {near(random, slots), near(random, slots), near(random, slots), near(random, slots), way,
          random.nextInt(60) == 0 ? 12 : random.nextInt(variables), near(random, 5), near(random, 3)};
      if (i < variables) {
        call = 1;
        a[0] = i;
        a[Calls.VARIABLE] = variables == 6 ? 2 * i : i;
      } else if (variables == 6 && call == 1) {
        a[Calls.VARIABLE] *= 2;
      }
      String name = "seed " + seed + ", call " + i + " (" + call + ")";
      CHECKS.due(name, Calls.outcome(x, call, a), Calls.outcome(y, call, a));
      if (x.left() > 0 && (call == Calls.TIDY || i % 16 == 0)) {
        CHECKS.due(name + ": wrong()", x.wrong(), 0);
        CHECKS.due(name + ": wrong references", inside.wrongReferences(), 0);
        CHECKS.due(name + ": wrong numbers of nodes", inside.wrongHeld(), 0);
      }
      if (call == Calls.TIDY && a[Calls.WHAT] >= 0 && a[Calls.WHAT] < 3) {
        CHECKS.due(name + ": what is there after tidy", inside.size(), inside.needed());
      }
    }
    CHECKS.due("seed " + seed + ": ways that are off", inside.waysOff(y), 0);
    CHECKS.due("seed " + seed + ": the room", inside.fieldsAndElements() < 150000, true);
  }

  public static void main(String[] args) {
    int[] even = {2, 4, 8, 16, 6, 4, 4, 4, 4, 4, 5, 2};
    int[] large = {0, 1, 30, 30, 1, 10, 1, 1, 1, 1, 1, 1};
    int[] small = {6, 12, 6, 16, 12, 6, 4, 6, 8, 6, 5, 2};
    for (int seed = 0; seed < 60; seed++) {
      run(seed, even, 32, 12);
      run(1000 + seed, small, 32, 6);
      run(3000 + seed, even, 8, 6);
    }
    for (int seed = 0; seed < 20; seed++) {
      run(2000 + seed, large, 32, 12);
    }
    CHECKS.end("RandomRunsTest");
  }
}
