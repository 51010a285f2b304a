import java.util.Random;

/** What no answer of a right store shows: the throwing away, the order, the faults and the room. */
public final class InsideTest {
  private static final Checks CHECKS = new Checks();

  /** Slot 20: all six pairs v and v + 6 differ, which needs much in the order of the numbers. */
  private static DiagramStore withPairs() {
    DiagramStore x = new DiagramStore();
    for (int v = 0; v < 12; v++) {
      x.variable(v, v);
    }
    x.constant(20, true);
    for (int v = 0; v < 6; v++) {
      x.join(21, 2, v, v + 6);
      x.join(20, 0, 20, 21);
    }
    return x;
  }

  private static void throwsAway() {
    DiagramStore x = withPairs();
    Inside inside = new Inside(x);
    CHECKS.due("what was made on the way is still there", inside.size() > inside.needed(), true);
    x.tidy(0);
    CHECKS.due("only what is needed is there", inside.size(), inside.needed());
    for (int slot = 0; slot < 32; slot++) {
      x.constant(slot, slot % 2 == 0);
    }
    x.tidy(0);
    CHECKS.due("constants need no node", inside.size(), 0);
  }

  private static void seeksLess() {
    DiagramStore x = withPairs();
    Inside inside = new Inside(x);
    x.tidy(0);
    int before = inside.size();
    x.tidy(1);
    CHECKS.due("a third is enough", inside.size() <= before / 3, true);
    int after = inside.size();
    x.tidy(1);
    CHECKS.due("never more", inside.size() <= after, true);
  }

  private static void turnsRound() {
    DiagramStore x = withPairs();
    Inside inside = new Inside(x);
    for (int round = 0; round < 4; round++) {
      int[] before = inside.order();
      x.tidy(2);
      int[] after = inside.order();
      for (int level = 0; level < 12; level++) {
        CHECKS.due("order at " + level, after[level], before[11 - level]);
      }
      x.tidy(1);
    }
  }

  private static void seesFaults() {
    int[] fields = {Inside.ASKED, Inside.LOW, Inside.HIGH};
    for (int field : fields) {
      for (int wrongNumber = 0; wrongNumber < 12; wrongNumber++) {
        DiagramStore x = withPairs();
        Inside inside = new Inside(x);
        int root = inside.slots()[20];
        int at = root * Inside.WIDTH + field;
        if (inside.rows()[at] != wrongNumber) {
          inside.rows()[at] = wrongNumber;
          CHECKS.due("wrong with field " + field + " at " + wrongNumber, x.wrong() > 0, true);
        }
      }
    }
    DiagramStore x = new DiagramStore();
    x.variable(0, 0);
    x.tidy(2);
    CHECKS.due("nothing is wrong", x.wrong(), 0);
    Inside inside = new Inside(x);
    int[] rows = inside.rows();
    int node = inside.slots()[0];
    int twin = node + 1;
    System.arraycopy(rows, node * Inside.WIDTH, rows, twin * Inside.WIDTH, Inside.WIDTH);
    rows[node * Inside.WIDTH + Inside.NEXT] = twin;
    CHECKS.due("a node is there twice", x.wrong(), 1);
  }

  /** Far more calls than an object is used for, until the slots hold about as much as they can. */
  private static void fillsUp() {
    Random random = new Random(7);
    DiagramStore x = withPairs();
    TableStore y = new TableStore();
    Inside inside = new Inside(x);
    for (int v = 0; v < 12; v++) {
      y.variable(v, v);
      x.variable(20 + v, v);
      y.variable(20 + v, v);
    }
    for (int slot = 12; slot < 20; slot++) {
      x.variable(slot, slot - 12);
      y.variable(slot, slot - 12);
    }
    int most = 0;
    for (int i = 0; i < 4000; i++) {
      int slot = random.nextInt(32);
      int f = random.nextInt(32);
      int g = random.nextInt(32);
      int h = random.nextInt(32);
      if (i % 3 == 0) {
        CHECKS.due("choose", x.choose(slot, f, g, h), y.choose(slot, f, g, h));
      } else if (i % 3 == 1) {
        CHECKS.due("turn", x.turn(slot, slot), y.turn(slot, slot));
      } else {
        int other = i % 2 == 0 ? f : slot ^ 1;
        CHECKS.due("join", x.join(slot, 2, slot, other), y.join(slot, 2, slot, other));
        x.variable(f, i % 12);
        y.variable(f, i % 12);
        CHECKS.due("mix", x.choose(f, f, g, h), y.choose(f, f, g, h));
      }
      if (i % 100 == 99) {
        x.tidy(i / 100 % 3);
        most = Math.max(most, inside.size());
        CHECKS.due("nothing wrong", x.wrong(), 0);
      }
    }
    System.out.println("fillsUp: at most " + most + " nodes, " + inside.fieldsAndElements() + " fields and elements");
    CHECKS.due("the slots are nearly full", most > 12000, true);
    for (int slot = 0; slot < 32; slot++) {
      for (int way = 0; way < 4096; way++) {
        CHECKS.due("value", x.value(slot, way), y.value(slot, way));
      }
    }
    CHECKS.due("the room of a full store", inside.fieldsAndElements() < 140000, true);
  }

  private static void room() {
    DiagramStore x = new DiagramStore();
    CHECKS.due("512 new objects fit the room", new Inside(x).fieldsAndElements() * 512 < 7300000, true);
  }

  public static void main(String[] args) {
    throwsAway();
    seeksLess();
    turnsRound();
    seesFaults();
    fillsUp();
    room();
    CHECKS.end("InsideTest");
  }
}
