import java.util.BitSet;

/** The document again, with a table of 4096 truths for each slot: what the tests compare with. */
final class TableStore implements Store {
  private static final int WAYS = 4096;
  private static final int EVEN = 0x555;

  private final BitSet[] slots = new BitSet[32];

  TableStore() {
    for (int slot = 0; slot < slots.length; slot++) {
      slots[slot] = new BitSet(WAYS);
    }
  }

  private boolean put(int slot, BitSet table) {
    boolean another = !table.equals(slots[slot]);
    slots[slot] = table;
    return another;
  }

  private static void range(int number, int bound) {
    if (number < 0 || number >= bound) {
      throw new IllegalArgumentException();
    }
  }

  private static void slots(int... numbers) {
    for (int number : numbers) {
      range(number, 32);
    }
  }

  @Override
  public void constant(int slot, boolean yes) {
    slots(slot);
    BitSet table = new BitSet(WAYS);
    table.set(0, WAYS, yes);
    put(slot, table);
  }

  @Override
  public void variable(int slot, int v) {
    slots(slot);
    range(v, 12);
    BitSet table = new BitSet(WAYS);
    for (int way = 0; way < WAYS; way++) {
      table.set(way, (way >> v & 1) == 1);
    }
    put(slot, table);
  }

  @Override
  public boolean choose(int slot, int f, int g, int h) {
    slots(slot, f, g, h);
    BitSet table = new BitSet(WAYS);
    for (int way = 0; way < WAYS; way++) {
      table.set(way, slots[f].get(way) ? slots[g].get(way) : slots[h].get(way));
    }
    return put(slot, table);
  }

  @Override
  public boolean join(int slot, int kind, int f, int g) {
    slots(slot, f, g);
    range(kind, 5);
    BitSet table = (BitSet) slots[f].clone();
    if (kind == 0) {
      table.and(slots[g]);
    } else if (kind == 1) {
      table.or(slots[g]);
    } else if (kind == 2) {
      table.xor(slots[g]);
    } else if (kind == 3) {
      table.andNot(slots[g]);
    } else {
      table.flip(0, WAYS);
    }
    return put(slot, table);
  }

  @Override
  public boolean some(int slot, int f, int g, int mask) {
    slots(slot, f, g);
    range(mask, WAYS);
    BitSet met = new BitSet(WAYS);
    for (int way = 0; way < WAYS; way++) {
      if (slots[f].get(way) && slots[g].get(way)) {
        met.set(way & ~mask);
      }
    }
    BitSet table = new BitSet(WAYS);
    for (int way = 0; way < WAYS; way++) {
      table.set(way, met.get(way & ~mask));
    }
    return put(slot, table);
  }

  @Override
  public boolean turn(int slot, int f) {
    slots(slot, f);
    BitSet table = new BitSet(WAYS);
    for (int way = 0; way < WAYS; way++) {
      table.set(way, slots[f].get((way & EVEN) << 1 | way >> 1 & EVEN));
    }
    return put(slot, table);
  }

  @Override
  public boolean value(int slot, int way) {
    slots(slot);
    range(way, WAYS);
    return slots[slot].get(way);
  }

  @Override
  public boolean same(int slot, int other) {
    slots(slot, other);
    return slots[slot].equals(slots[other]);
  }

  @Override
  public int count(int slot) {
    if ((support(slot) & ~EVEN) != 0) {
      throw new UnsupportedOperationException();
    }
    int rows = 0;
    for (int way = 0; way < WAYS; way++) {
      if ((way & ~EVEN) == 0 && slots[slot].get(way)) {
        rows++;
      }
    }
    return rows;
  }

  @Override
  public int support(int slot) {
    slots(slot);
    int mask = 0;
    for (int v = 0; v < 12; v++) {
      for (int way = 0; way < WAYS; way++) {
        if (slots[slot].get(way) != slots[slot].get(way ^ 1 << v)) {
          mask |= 1 << v;
          break;
        }
      }
    }
    return mask;
  }

  @Override
  public int tidy(int what) {
    range(what, 3);
    int found = 0;
    for (BitSet table : slots) {
      if (!table.isEmpty()) {
        found++;
      }
    }
    return found;
  }

  @Override
  public int wrong() {
    return 0;
  }
}
