import java.util.Random;

/** What no answer of a right store shows: the throwing away, the order, the faults and the room. */
public final class InsideTest {
  private static final Checks CHECKS = new Checks();

  /** Slot 20: all six pairs v and v + 6 differ, which needs much in the order of the numbers. */
  private static Counted withPairs() {
    Counted x = new Counted();
    for (int v = 0; v < 12; v++) {
      x.variable(v, v);
    }
    x.constant(20, true);
    for (int v = 0; v < 6; v++) {
      x.join(21, 2, v, v + 6);
      x.join(20, 0, 20, 21);
    }
    return x;
  }

  private static void throwsAway() {
    Counted x = withPairs();
    Inside inside = x.inside();
    CHECKS.due("what was made on the way is still there", inside.size() > inside.needed(), true);
    x.tidy(0);
    CHECKS.due("only what is needed is there", inside.size(), inside.needed());
    for (int slot = 0; slot < 32; slot++) {
      x.constant(slot, slot % 2 == 0);
    }
    x.tidy(0);
    CHECKS.due("constants need no node", inside.size(), 0);
  }

  private static void seeksLess() {
    Counted x = withPairs();
    Inside inside = x.inside();
    x.tidy(0);
    int before = inside.size();
    x.tidy(1);
    CHECKS.due("a third is enough", inside.size() <= before / 3, true);
    int after = inside.size();
    x.tidy(1);
    CHECKS.due("never more", inside.size() <= after, true);
  }

  private static void turnsRound() {
    Counted x = withPairs();
    Inside inside = x.inside();
    for (int round = 0; round < 4; round++) {
      int[] before = inside.order();
      x.tidy(2);
      int[] after = inside.order();
      for (int level = 0; level < 12; level++) {
        CHECKS.due("order at " + level, after[level], before[11 - level]);
      }
      x.tidy(1);
    }
  }

  private static void seesFaults() {
    int[] fields = {Inside.ASKED, Inside.LOW, Inside.HIGH};
    for (int field : fields) {
      for (int wrongNumber = 0; wrongNumber < 12; wrongNumber++) {
        Counted x = withPairs();
        Inside inside = x.inside();
        int root = inside.slots()[20];
        int at = root * Inside.WIDTH + field;
        if (inside.rows()[at] != wrongNumber) {
          inside.rows()[at] = wrongNumber;
          CHECKS.due("wrong with field " + field + " at " + wrongNumber, x.wrong() > 0, true);
        }
      }
    }
    Counted x = new Counted();
    x.variable(0, 0);
    x.tidy(2);
    CHECKS.due("nothing is wrong", x.wrong(), 0);
    Inside inside = x.inside();
    int[] rows = inside.rows();
    int node = inside.slots()[0];
    int twin = node + 1;
    System.arraycopy(rows, node * Inside.WIDTH, rows, twin * Inside.WIDTH, Inside.WIDTH);
    rows[node * Inside.WIDTH + Inside.NEXT] = twin;
    CHECKS.due("a node is there twice", x.wrong(), 1);
  }

  /** Keeps on changing the slots in turn, so that in the end they need about as much as they can. */
  private static void mix(Store x, Random random, int slot) {
    int f = random.nextInt(32);
    int g = random.nextInt(32);
    int h = random.nextInt(32);
    switch (random.nextInt(3)) {
      case 0:
        x.turn(slot, slot);
        break;
      case 1:
        x.choose(slot, f, g, h);
        break;
      default:
        x.join(slot, 2, slot, f);
        break;
    }
  }

  private static void mixAll(Store x, int seed, int calls) {
    Random random = new Random(seed);
    for (int slot = 0; slot < 32; slot++) {
      x.variable(slot, slot % 12);
    }
    for (int i = 32; i < calls; i++) {
      mix(x, random, i % 32);
    }
  }

  /** The last calls on a store that is as full as it gets: tidyings, and the call that makes most nodes. */
  private static void endOf(Store x, int seed) {
    for (int i = 0; i < 6; i++) {
      x.tidy((seed + i) % 3);
      x.some(i, 8 + i, 16 + i, 0xFFF >> i);
      x.some(31 - i, 24 - i, 12 + i, 0xFFF << i & 0xFFF);
    }
  }

  private static void fillsUp() {
    int mostNodes = 0;
    int mostRows = 0;
    long mostRoom = 0;
    for (int seed = 0; seed < 12; seed++) {
      Counted x = new Counted();
      Store y = new TableStore();
      mixAll(x, seed, 360 + 10 * seed);
      mixAll(y, seed, 360 + 10 * seed);
      mostNodes = Math.max(mostNodes, x.inside().needed());
      endOf(x, seed);
      endOf(y, seed);
      CHECKS.due("wrong in a full store", x.wrong(), 0);
      CHECKS.due("ways that are off in a full store", x.inside().waysOff(y), 0);
      CHECKS.due("wrong references in a full store", x.inside().wrongReferences(), 0);
      mostRows = Math.max(mostRows, x.inside().used());
      mostRoom = Math.max(mostRoom, x.inside().fieldsAndElements());
    }
    System.out.println("fillsUp: " + mostNodes + " nodes needed, " + mostRows + " rows used at once, " + mostRoom
        + " fields and elements");
    CHECKS.due("the slots are nearly full", mostNodes > 15500, true);
    CHECKS.due("the room of a full store", mostRoom < 140000, true);
  }

  private static void room() {
    Counted x = new Counted();
    CHECKS.due("512 new objects fit the room", x.inside().fieldsAndElements() * 512 < 7300000, true);
  }

  public static void main(String[] args) {
    throwsAway();
    seeksLess();
    turnsRound();
    seesFaults();
    fillsUp();
    room();
    CHECKS.end("InsideTest");
  }
}
