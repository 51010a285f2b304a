import java.util.Arrays;

/**
 * Truth functions of twelve variables, kept as shared, reduced and ordered decision diagrams.
 *
 * <p>Each slot holds a node of one common table. The table holds a node for each function that is
 * needed, and only one, so that two slots hold the same function just when they hold the same node.
 */
public final class DiagramStore {
  private static final int SLOTS = 32;
  private static final int VARIABLES = 12;
  private static final int WAYS = 1 << VARIABLES;

  private static final int AND = 0;
  private static final int OR = 1;
  private static final int JUST_ONE = 2;
  private static final int AND_NOT = 3;
  private static final int KINDS = 5;

  private static final int SEEK_LESS = 1;
  private static final int TURN_ROUND = 2;
  private static final int TIDYINGS = 3;

  /** The mask of the variables 0, 2, 4, 6, 8, 10, and how many rows of truths they have. */
  private static final int EVEN = 0x555;
  private static final int EVEN_ROWS = 64;

  /** The two ends of all diagrams are the first two rows of the table. */
  private static final int FALSE = 0;
  private static final int TRUE = 1;
  private static final int ENDS = 2;

  /** No chain of nodes holds the row FALSE, so its number can say that a chain is at its end. */
  private static final int NONE = 0;

  /** What the memo answers for what it does not know: no node and no mask is below 0. */
  private static final int UNKNOWN = -1;

  /**
   * How many nodes the diagram of one function can need: in each order 1, 2, 4, .., 256 on the first
   * nine levels, and on the last three as many as there are functions that hang on their first
   * variable: 240, 12 and 2.
   */
  private static final int NODES_OF_ONE = 765;

  /**
   * How many nodes 'some' can make: those of 'f and g', and at each level j of the first nine at most
   * 2^j nodes that are built and j * 2^(j-1) from joining the two halves of nodes above, 2304 in all,
   * and on the last three levels 254.
   */
  private static final int NODES_OF_SOME = NODES_OF_ONE + 2304 + 254;

  /**
   * How many rows the table can need. 32 functions need at most 32 * 511 nodes on the first nine
   * levels, 254 on the last three, and the two ends; and while two levels change places, the lower one
   * may be there twice: at most 32 * 256 nodes.
   */
  private static final int MOST_ROWS = 32 * 511 + 254 + ENDS + 32 * 256;

  private static final int FIRST_ROWS = 1024;

  private final int[] slots;
  private final Nodes nodes;
  private final Algebra algebra;
  private final Sifting sifting;

  public DiagramStore() {
    slots = new int[SLOTS];
    Arrays.fill(slots, FALSE);
    nodes = new Nodes();
    algebra = new Algebra(nodes);
    sifting = new Sifting(nodes);
  }

  public void constant(int slot, boolean yes) throws IllegalArgumentException {
    requireSlot(slot);
    put(slot, yes ? TRUE : FALSE);
  }

  public void variable(int slot, int v) throws IllegalArgumentException {
    requireSlot(slot);
    requireBelow(v, VARIABLES);
    put(slot, algebra.truthOf(v));
  }

  public boolean choose(int slot, int f, int g, int h) throws IllegalArgumentException {
    requireSlot(slot);
    requireSlot(f);
    requireSlot(g);
    requireSlot(h);
    return put(slot, algebra.chosen(slots[f], slots[g], slots[h]));
  }

  public boolean join(int slot, int kind, int f, int g) throws IllegalArgumentException {
    requireSlot(slot);
    requireBelow(kind, KINDS);
    requireSlot(f);
    requireSlot(g);
    return put(slot, algebra.joined(kind, slots[f], slots[g]));
  }

  public boolean some(int slot, int f, int g, int mask) throws IllegalArgumentException {
    requireSlot(slot);
    requireSlot(f);
    requireSlot(g);
    requireBelow(mask, WAYS);
    return put(slot, algebra.bothForSome(slots[f], slots[g], mask));
  }

  public boolean turn(int slot, int f) throws IllegalArgumentException {
    requireSlot(slot);
    requireSlot(f);
    return put(slot, algebra.turned(slots[f]));
  }

  public boolean value(int slot, int way) throws IllegalArgumentException {
    requireSlot(slot);
    requireBelow(way, WAYS);
    return nodes.truthFor(slots[slot], way);
  }

  public boolean same(int slot, int other) throws IllegalArgumentException {
    requireSlot(slot);
    requireSlot(other);
    return slots[slot] == slots[other];
  }

  public int count(int slot) throws IllegalArgumentException, UnsupportedOperationException {
    requireSlot(slot);
    if ((algebra.hangsOn(slots[slot]) & ~EVEN) != 0) {
      throw new UnsupportedOperationException("the function hangs on an odd variable");
    }
    int rows = 0;
    int way = 0;
    for (int row = 0; row < EVEN_ROWS; row++) {
      if (nodes.truthFor(slots[slot], way)) {
        rows++;
      }
      // taking EVEN away carries over the odd bits: this steps through all ways within EVEN
      way = (way - EVEN) & EVEN;
    }
    return rows;
  }

  public int support(int slot) throws IllegalArgumentException {
    requireSlot(slot);
    return algebra.hangsOn(slots[slot]);
  }

  public int tidy(int what) throws IllegalArgumentException {
    requireBelow(what, TIDYINGS);
    nodes.collect();
    if (what == SEEK_LESS) {
      sifting.seekLess();
    } else if (what == TURN_ROUND) {
      sifting.turnRound();
    }
    return slotsNotFalse();
  }

  public int wrong() {
    return nodes.faults();
  }

  private int slotsNotFalse() {
    int found = 0;
    for (int node : slots) {
      if (node != FALSE) {
        found++;
      }
    }
    return found;
  }

  /** Answers whether the slot held another function; the slot's number has been looked at. */
  private boolean put(int slot, int node) {
    int old = slots[slot];
    nodes.refer(node, 1);
    nodes.refer(old, -1);
    slots[slot] = node;
    return node != old;
  }

  private static void requireSlot(int slot) {
    requireBelow(slot, SLOTS);
  }

  private static void requireBelow(int number, int bound) {
    if (number < 0 || number >= bound) {
      throw new IllegalArgumentException("a number is out of range");
    }
  }

  /**
   * The table of nodes, and the order of the variables. A node is the number of a row. It asks a
   * variable, and goes on to its low node if that is false and to its high node if it is true; on
   * each way down the variables are asked in the order. All is read and written through get and set,
   * which look at the place first.
   */
  private static final class Nodes {
    private static final int ASKED = 0;
    private static final int LOW = 1;
    private static final int HIGH = 2;
    private static final int NEXT = 3;
    private static final int REFERENCES = 4;
    private static final int WIDTH = 5;

    /** The chains in which the nodes that ask one variable are found; a power of two. */
    private static final int CHAINS = 64;

    /** So full the table may be when work begins: what 'some' can make still finds room. */
    private static final int FULL = MOST_ROWS - ENDS - NODES_OF_SOME;

    private int[] rows;
    private final int[] heads;
    private final int[] held;
    private final int[] levels;
    private final int[] variables;
    private int room;
    private int used;
    private int free;
    private int size;
    private int limit;
    private int rewritten;

    Nodes() {
      rows = new int[FIRST_ROWS * WIDTH];
      room = FIRST_ROWS;
      rows[FALSE * WIDTH + ASKED] = VARIABLES;
      rows[TRUE * WIDTH + ASKED] = VARIABLES;
      used = ENDS;
      free = NONE;
      heads = new int[VARIABLES * CHAINS];
      held = new int[VARIABLES];
      levels = new int[VARIABLES + 1];
      variables = new int[VARIABLES + 1];
      // the ends stand as a thirteenth variable below all others
      for (int v = 0; v <= VARIABLES; v++) {
        levels[v] = v;
        variables[v] = v;
      }
      limit = FIRST_ROWS;
    }

    private int get(int node, int field) {
      int at = node * WIDTH + field;
      return at >= 0 && at < rows.length ? rows[at] : NONE;
    }

    private void set(int node, int field, int number) {
      int at = node * WIDTH + field;
      if (at >= 0 && at < rows.length) {
        rows[at] = number;
      }
    }

    int size() {
      return size;
    }

    int rewritten() {
      return rewritten;
    }

    int askedBy(int node) {
      return get(node, ASKED);
    }

    /** The node that is met if v is false; v is not asked later than the node's own variable. */
    int lowFor(int node, int v) {
      return get(node, ASKED) == v ? get(node, LOW) : node;
    }

    int highFor(int node, int v) {
      return get(node, ASKED) == v ? get(node, HIGH) : node;
    }

    int levelOf(int v) {
      return v >= 0 && v < levels.length ? levels[v] : VARIABLES;
    }

    int variableAt(int level) {
      return level >= 0 && level < variables.length ? variables[level] : VARIABLES;
    }

    int heldFor(int v) {
      return v >= 0 && v < held.length ? held[v] : 0;
    }

    /** The variable that comes first in the order of those that three nodes ask. */
    int firstAsked(int f, int g, int h) {
      int level = Math.min(levelOf(askedBy(f)), levelOf(askedBy(g)));
      return variableAt(Math.min(level, levelOf(askedBy(h))));
    }

    boolean truthFor(int node, int way) {
      int at = node;
      for (int step = 0; step < VARIABLES && at > TRUE; step++) {
        boolean yes = (way >> get(at, ASKED) & 1) != 0;
        at = get(at, yes ? HIGH : LOW);
      }
      return at == TRUE;
    }

    /** Follows a node down as long as the variables that it meets are known. */
    int followed(int node, int known, int way) {
      int at = node;
      for (int step = 0; step < VARIABLES && (known >> get(at, ASKED) & 1) != 0; step++) {
        boolean yes = (way >> get(at, ASKED) & 1) != 0;
        at = get(at, yes ? HIGH : LOW);
      }
      return at;
    }

    void refer(int node, int change) {
      set(node, REFERENCES, get(node, REFERENCES) + change);
    }

    /** The one node that asks v and goes on to low and high, made if it is not there yet. */
    int make(int v, int low, int high) {
      if (low == high) {
        return low;
      }
      int head = chainFor(v, low, high);
      if (head < 0 || head >= heads.length) {
        return FALSE;
      }
      int node = heads[head];
      for (int step = 0; step < MOST_ROWS && node != NONE; step++) {
        if (get(node, LOW) == low && get(node, HIGH) == high) {
          return node;
        }
        node = get(node, NEXT);
      }
      node = freshRow();
      // the room is made before each piece of work, so there is always a row
      if (node == NONE) {
        return FALSE;
      }
      refer(low, 1);
      refer(high, 1);
      link(node, v, low, high);
      return node;
    }

    private static int chainFor(int v, int low, int high) {
      int mixed = low * 0x9E3779B1 + high * 0x85EBCA6B;
      return v * CHAINS + (mixed >>> 20 & (CHAINS - 1));
    }

    private int freshRow() {
      int row = free;
      if (row != NONE) {
        free = get(row, NEXT);
      } else if (used < room) {
        row = used;
        used++;
      } else {
        return NONE;
      }
      set(row, REFERENCES, 0);
      size++;
      return row;
    }

    private void giveBack(int row) {
      set(row, NEXT, free);
      free = row;
      size--;
    }

    private void link(int node, int v, int low, int high) {
      int head = chainFor(v, low, high);
      if (v < 0 || v >= held.length || head < 0 || head >= heads.length) {
        return;
      }
      set(node, ASKED, v);
      set(node, LOW, low);
      set(node, HIGH, high);
      set(node, NEXT, heads[head]);
      heads[head] = node;
      held[v]++;
    }

    private void unlink(int node) {
      int v = get(node, ASKED);
      int head = chainFor(v, get(node, LOW), get(node, HIGH));
      if (v < 0 || v >= held.length || head < 0 || head >= heads.length) {
        return;
      }
      held[v]--;
      if (heads[head] == node) {
        heads[head] = get(node, NEXT);
        return;
      }
      int before = heads[head];
      for (int step = 0; step < MOST_ROWS && before != NONE; step++) {
        if (get(before, NEXT) == node) {
          set(before, NEXT, get(node, NEXT));
          return;
        }
        before = get(before, NEXT);
      }
    }

    /** To be called before work that makes up to 'need' nodes, while only slots hold nodes. */
    void makeRoom(int need) {
      if (size > limit) {
        collect();
        // twice what is needed now: so collecting costs little for each node that is made
        limit = Math.min(Math.max(2 * size, FIRST_ROWS), FULL);
      }
      widen(size + need);
    }

    private void widen(int wanted) {
      int least = Math.min(wanted + ENDS, MOST_ROWS);
      if (least > room) {
        room = Math.min(Math.max(least, 2 * room), MOST_ROWS);
        rows = Arrays.copyOf(rows, room * WIDTH);
      }
    }

    /** Throws away all nodes to which neither a slot nor a needed node refers. */
    void collect() {
      // from the top down: a node is looked at when all that may refer to it have been
      for (int level = 0; level < VARIABLES; level++) {
        int first = variableAt(level) * CHAINS;
        for (int head = first; head < first + CHAINS; head++) {
          if (head >= 0 && head < heads.length) {
            heads[head] = needed(heads[head]);
          }
        }
      }
    }

    /** What stays of a chain. */
    private int needed(int chain) {
      int kept = NONE;
      int node = chain;
      for (int step = 0; step < MOST_ROWS && node != NONE; step++) {
        int after = get(node, NEXT);
        if (get(node, REFERENCES) > 0) {
          set(node, NEXT, kept);
          kept = node;
        } else {
          int v = get(node, ASKED);
          if (v >= 0 && v < held.length) {
            held[v]--;
          }
          refer(get(node, LOW), -1);
          refer(get(node, HIGH), -1);
          giveBack(node);
        }
        node = after;
      }
      return kept;
    }

    /**
     * Lets the variables of a level and of the next one change places. Only nodes that ask the upper
     * one and have a child that asks the lower one are written anew, each in its own row, so that
     * whoever refers to a node still refers to the same function. All that is there must be needed
     * before, and is so after.
     */
    void swap(int level) {
      if (level < 0 || level + 1 >= VARIABLES || level + 1 >= variables.length) {
        return;
      }
      int upper = variables[level];
      int lower = variables[level + 1];
      if (upper < 0 || upper >= levels.length || lower < 0 || lower >= levels.length) {
        return;
      }
      variables[level] = lower;
      variables[level + 1] = upper;
      levels[lower] = level;
      levels[upper] = level + 1;
      // most steps of a variable that few functions hang on meet nothing
      if (heldFor(upper) == 0 || heldFor(lower) == 0) {
        return;
      }
      widen(size + 2 * heldFor(upper));
      int node = detach(upper, lower);
      for (int step = 0; step < MOST_ROWS && node != NONE; step++) {
        int after = get(node, NEXT);
        rewrite(node, upper, lower);
        node = after;
      }
    }

    /** Takes the nodes that ask upper, and lower right below it, out of the table, as one chain. */
    private int detach(int upper, int lower) {
      int taken = NONE;
      int first = upper * CHAINS;
      for (int head = first; head < first + CHAINS; head++) {
        if (head < 0 || head >= heads.length || upper < 0 || upper >= held.length) {
          return taken;
        }
        int kept = NONE;
        int node = heads[head];
        for (int step = 0; step < MOST_ROWS && node != NONE; step++) {
          int after = get(node, NEXT);
          if (get(get(node, LOW), ASKED) == lower || get(get(node, HIGH), ASKED) == lower) {
            set(node, NEXT, taken);
            taken = node;
            held[upper]--;
          } else {
            set(node, NEXT, kept);
            kept = node;
          }
          node = after;
        }
        heads[head] = kept;
      }
      return taken;
    }

    private void rewrite(int node, int upper, int lower) {
      int oldLow = get(node, LOW);
      int oldHigh = get(node, HIGH);
      int low = make(upper, lowFor(oldLow, lower), lowFor(oldHigh, lower));
      int high = make(upper, highFor(oldLow, lower), highFor(oldHigh, lower));
      refer(low, 1);
      refer(high, 1);
      link(node, lower, low, high);
      release(oldLow);
      release(oldHigh);
      rewritten++;
    }

    /** One reference less; what is below a node that goes is still needed by what was written anew. */
    private void release(int node) {
      refer(node, -1);
      if (node > TRUE && get(node, REFERENCES) <= 0) {
        unlink(node);
        refer(get(node, LOW), -1);
        refer(get(node, HIGH), -1);
        giveBack(node);
      }
    }

    int faults() {
      int found = 0;
      for (int head = 0; head < heads.length; head++) {
        int node = heads[head];
        for (int step = 0; step < MOST_ROWS && node != NONE; step++) {
          if (isMisplaced(node, head) || isThereTwice(node)) {
            found++;
          }
          node = get(node, NEXT);
        }
      }
      return found;
    }

    /** A node in a wrong chain would not be found, and so could be there twice unseen. */
    private boolean isMisplaced(int node, int head) {
      int v = get(node, ASKED);
      int low = get(node, LOW);
      int high = get(node, HIGH);
      int below = Math.min(levelOf(askedBy(low)), levelOf(askedBy(high)));
      return low == high || levelOf(v) >= below || chainFor(v, low, high) != head;
    }

    private boolean isThereTwice(int node) {
      int other = get(node, NEXT);
      for (int step = 0; step < MOST_ROWS && other != NONE; step++) {
        if (get(other, LOW) == get(node, LOW) && get(other, HIGH) == get(node, HIGH)) {
          return true;
        }
        other = get(other, NEXT);
      }
      return false;
    }
  }

  /** Remembers answers during one call; where two want the same place, the later one stays. */
  private static final class Memo {
    private static final int SIZE = 1024;
    private static final int AGE = 3;
    private static final int ANSWER = 4;
    private static final int WIDTH = 5;

    private final int[] rows;
    private int age;

    Memo() {
      rows = new int[SIZE * WIDTH];
      age = 1;
    }

    /** To be called before each piece of work: nodes may have been thrown away since the last. */
    void forget() {
      age++;
    }

    private static int placeFor(int a, int b, int c) {
      int mixed = a * 0x9E3779B1 + b * 0x85EBCA6B + c * 0xC2B2AE35;
      return (mixed >>> 20 & (SIZE - 1)) * WIDTH;
    }

    int answerFor(int a, int b, int c) {
      int at = placeFor(a, b, c);
      if (at < 0 || at + WIDTH > rows.length || rows[at + AGE] != age) {
        return UNKNOWN;
      }
      boolean meant = rows[at] == a && rows[at + 1] == b && rows[at + 2] == c;
      return meant ? rows[at + ANSWER] : UNKNOWN;
    }

    void keep(int a, int b, int c, int answer) {
      int at = placeFor(a, b, c);
      if (at < 0 || at + WIDTH > rows.length) {
        return;
      }
      rows[at] = a;
      rows[at + 1] = b;
      rows[at + 2] = c;
      rows[at + AGE] = age;
      rows[at + ANSWER] = answer;
    }
  }

  /**
   * Makes nodes for functions from nodes for others. Each recursion goes down at least one level a
   * step, so that it meets the ends after twelve; the depth is carried all the same, and it stops there.
   */
  private static final class Algebra {
    /** Stands in the memo where a choice has its third node: asks of single nodes are told apart. */
    private static final int LONE = -1;

    private final Nodes nodes;
    private final Memo memo;

    Algebra(Nodes nodes) {
      this.nodes = nodes;
      this.memo = new Memo();
    }

    private void begin(int need) {
      nodes.makeRoom(need);
      memo.forget();
    }

    int truthOf(int v) {
      begin(1);
      return nodes.make(v, FALSE, TRUE);
    }

    int chosen(int f, int g, int h) {
      begin(NODES_OF_ONE);
      return pick(f, g, h, 0);
    }

    int joined(int kind, int f, int g) {
      begin(2 * NODES_OF_ONE);
      switch (kind) {
        case AND:
          return pick(f, g, FALSE, 0);
        case OR:
          return pick(f, TRUE, g, 0);
        case JUST_ONE:
          return pick(f, pick(g, FALSE, TRUE, 0), g, 0);
        case AND_NOT:
          return pick(g, FALSE, f, 0);
        default:
          return pick(f, FALSE, TRUE, 0);
      }
    }

    int bothForSome(int f, int g, int mask) {
      begin(NODES_OF_SOME);
      return freed(pick(f, g, FALSE, 0), mask, 0);
    }

    int turned(int f) {
      begin(NODES_OF_ONE);
      return turnedFrom(f, 0, 0, 0, hanging(f, 0));
    }

    int hangsOn(int f) {
      memo.forget();
      return hanging(f, 0);
    }

    /** What g gives where f is true, and h elsewhere. */
    private int pick(int f, int g, int h, int depth) {
      if (f == TRUE || g == h) {
        return g;
      }
      if (f == FALSE) {
        return h;
      }
      if (g == TRUE && h == FALSE || depth >= VARIABLES) {
        return f;
      }
      int known = memo.answerFor(f, g, h);
      if (known != UNKNOWN) {
        return known;
      }
      int v = nodes.firstAsked(f, g, h);
      int low = pick(nodes.lowFor(f, v), nodes.lowFor(g, v), nodes.lowFor(h, v), depth + 1);
      int high = pick(nodes.highFor(f, v), nodes.highFor(g, v), nodes.highFor(h, v), depth + 1);
      int made = nodes.make(v, low, high);
      memo.keep(f, g, h, made);
      return made;
    }

    /** True where f is true for some truths of the variables of the mask. */
    private int freed(int f, int mask, int depth) {
      if (f <= TRUE || depth >= VARIABLES) {
        return f;
      }
      int known = memo.answerFor(f, mask, LONE);
      if (known != UNKNOWN) {
        return known;
      }
      int v = nodes.askedBy(f);
      int low = freed(nodes.lowFor(f, v), mask, depth + 1);
      int high = freed(nodes.highFor(f, v), mask, depth + 1);
      boolean any = (mask >> v & 1) != 0;
      int made = any ? pick(low, TRUE, high, depth + 1) : nodes.make(v, low, high);
      memo.keep(f, mask, LONE, made);
      return made;
    }

    private int hanging(int f, int depth) {
      if (f <= TRUE || depth >= VARIABLES) {
        return 0;
      }
      int known = memo.answerFor(f, 0, LONE);
      if (known != UNKNOWN) {
        return known;
      }
      int v = nodes.askedBy(f);
      int mask = 1 << v;
      mask |= hanging(nodes.lowFor(f, v), depth + 1);
      mask |= hanging(nodes.highFor(f, v), depth + 1);
      memo.keep(f, 0, LONE, mask);
      return mask;
    }

    /**
     * Builds the turned function from the top of the order: its variable at a level gives the truth
     * of that one's partner in f. So only nodes of the answer are made, wherever the partners stand.
     */
    private int turnedFrom(int f, int level, int known, int way, int mask) {
      int rest = nodes.followed(f, known, way);
      if (rest <= TRUE || level >= VARIABLES) {
        return rest;
      }
      int v = nodes.variableAt(level);
      int partner = 1 << (v ^ 1);
      if ((mask & partner) == 0) {
        return turnedFrom(rest, level + 1, known, way, mask);
      }
      int low = turnedFrom(rest, level + 1, known | partner, way, mask);
      int high = turnedFrom(rest, level + 1, known | partner, way | partner, mask);
      return nodes.make(v, low, high);
    }
  }

  /** Changes the order of the variables, one step between neighbours at a time. */
  private static final class Sifting {
    /** So many nodes are written anew before the search for a better order is given up. */
    private static final int PATIENCE = 8000;

    private final Nodes nodes;

    Sifting(Nodes nodes) {
      this.nodes = nodes;
    }

    /** Puts each variable, the one with most nodes first, where the table is smallest. */
    void seekLess() {
      int end = nodes.rewritten() + PATIENCE;
      int done = 0;
      for (int round = 0; round < VARIABLES && nodes.rewritten() - end < 0; round++) {
        int v = fullest(done);
        done |= 1 << v;
        if (nodes.heldFor(v) > 0) {
          sift(v);
        }
      }
    }

    private int fullest(int done) {
      int best = VARIABLES;
      for (int v = 0; v < VARIABLES; v++) {
        boolean open = (done >> v & 1) == 0;
        if (open && (best == VARIABLES || nodes.heldFor(v) > nodes.heldFor(best))) {
          best = v;
        }
      }
      return best;
    }

    private void sift(int v) {
      int start = nodes.levelOf(v);
      int level = start;
      int bestLevel = start;
      int best = nodes.size();
      // a table that has grown by a quarter seldom shrinks below the best on the same way
      int bearable = best + best / 4;
      for (; level + 1 < VARIABLES && nodes.size() <= bearable; level++) {
        nodes.swap(level);
        if (nodes.size() < best) {
          best = nodes.size();
          bestLevel = level + 1;
        }
      }
      for (; level > start || level > 0 && nodes.size() <= bearable; level--) {
        nodes.swap(level - 1);
        if (nodes.size() < best) {
          best = nodes.size();
          bestLevel = level - 1;
        }
      }
      for (; level < bestLevel; level++) {
        nodes.swap(level);
      }
    }

    void turnRound() {
      for (int bottom = VARIABLES - 1; bottom > 0; bottom--) {
        for (int level = 0; level < bottom; level++) {
          nodes.swap(level);
        }
      }
    }
  }
}
