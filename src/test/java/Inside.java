import java.lang.reflect.Array;
import java.lang.reflect.Field;
import java.lang.reflect.Modifier;

/** Looks into a store, and can spoil it, for the tests of what no answer of a right store shows. */
final class Inside {
  static final int WIDTH = 5;
  static final int ASKED = 0;
  static final int LOW = 1;
  static final int HIGH = 2;
  static final int NEXT = 3;
  static final int REFERENCES = 4;

  private final DiagramStore store;
  private final Object nodes;

  Inside(DiagramStore store) {
    this.store = store;
    this.nodes = read(store, "nodes");
  }

  private static Object read(Object owner, String name) {
    try {
      Field field = owner.getClass().getDeclaredField(name);
      field.setAccessible(true);
      return field.get(owner);
    } catch (ReflectiveOperationException e) {
      throw new IllegalStateException(e);
    }
  }

  int[] slots() {
    return (int[]) read(store, "slots");
  }

  int[] rows() {
    return (int[]) read(nodes, "rows");
  }

  int[] order() {
    return ((int[]) read(nodes, "variables")).clone();
  }

  int[] levels() {
    return (int[]) read(nodes, "levels");
  }

  int[] heads() {
    return (int[]) read(nodes, "heads");
  }

  int size() {
    return (Integer) read(nodes, "size");
  }

  /** How many rows have ever been in use at once, the two ends with them. */
  int used() {
    return (Integer) read(nodes, "used");
  }

  /** For how many ways the slots together do not give what another store gives; it is no call. */
  int waysOff(Store due) {
    int[] rows = rows();
    int off = 0;
    for (int slot = 0; slot < 32; slot++) {
      int root = slots()[slot];
      for (int way = 0; way < 4096; way++) {
        off += truth(rows, root, way) == due.value(slot, way) ? 0 : 1;
      }
    }
    return off;
  }

  private static boolean truth(int[] rows, int root, int way) {
    int node = root;
    // on a way down that is right, each variable is asked once at most
    for (int step = 0; step < 12 && node > 1; step++) {
      boolean yes = (way >> rows[node * WIDTH + ASKED] & 1) == 1;
      node = rows[node * WIDTH + (yes ? HIGH : LOW)];
    }
    return node == 1;
  }

  /** For how many variables the number of nodes that ask them is told wrongly. */
  int wrongHeld() {
    int[] due = new int[12];
    for (int head : heads()) {
      for (int node = head; node != 0; node = rows()[node * WIDTH + NEXT]) {
        due[rows()[node * WIDTH + ASKED]]++;
      }
    }
    int[] held = (int[]) read(nodes, "held");
    int wrong = 0;
    for (int v = 0; v < 12; v++) {
      wrong += held[v] == due[v] ? 0 : 1;
    }
    return wrong;
  }

  /** Puts a second node like the given one at the end of its chain; there must be a row that is free. */
  void addTwin(int node) {
    int[] rows = rows();
    int twin = used();
    System.arraycopy(rows, node * WIDTH, rows, twin * WIDTH, WIDTH);
    rows[twin * WIDTH + NEXT] = 0;
    int last = node;
    while (rows[last * WIDTH + NEXT] != 0) {
      last = rows[last * WIDTH + NEXT];
    }
    rows[last * WIDTH + NEXT] = twin;
  }

  /** How many nodes the slots need, the ends not counted. */
  int needed() {
    boolean[] met = new boolean[rows().length / WIDTH];
    int found = 0;
    for (int root : slots()) {
      found += meet(root, met);
    }
    return found;
  }

  private int meet(int node, boolean[] met) {
    if (node < 2 || met[node]) {
      return 0;
    }
    met[node] = true;
    return 1 + meet(rows()[node * WIDTH + LOW], met) + meet(rows()[node * WIDTH + HIGH], met);
  }

  /** How many inner nodes of the chains have another number of references than there are. */
  int wrongReferences() {
    int[] rows = rows();
    int[] due = new int[rows.length / WIDTH];
    boolean[] there = new boolean[due.length];
    for (int head : heads()) {
      for (int node = head; node != 0; node = rows[node * WIDTH + NEXT]) {
        there[node] = true;
        due[rows[node * WIDTH + LOW]]++;
        due[rows[node * WIDTH + HIGH]]++;
      }
    }
    for (int root : slots()) {
      due[root]++;
    }
    int wrong = 0;
    for (int node = 2; node < due.length; node++) {
      if (there[node] ? rows[node * WIDTH + REFERENCES] != due[node] : due[node] != 0) {
        wrong++;
      }
    }
    return wrong;
  }

  /** All fields and elements that belong to the store. */
  long fieldsAndElements() {
    return weigh(store) + weigh(nodes) + weigh(read(store, "algebra"))
        + weigh(read(read(store, "algebra"), "memo")) + weigh(read(store, "sifting"));
  }

  private static long weigh(Object owner) {
    long sum = 0;
    for (Field field : owner.getClass().getDeclaredFields()) {
      if (!Modifier.isStatic(field.getModifiers())) {
        sum++;
        Object held = read(owner, field.getName());
        if (held.getClass().isArray()) {
          sum += Array.getLength(held);
        }
      }
    }
    return sum;
  }
}
