/** A DiagramStore that lets a test make no more calls than the document gives an object. */
final class Counted implements Store {
  static final int CALLS = 512;

  private final DiagramStore store = new DiagramStore();
  private int left = CALLS;

  int left() {
    return left;
  }

  /** For the tests that look inside; it is no call of the store. */
  Inside inside() {
    return new Inside(store);
  }

  private DiagramStore next() {
    if (left == 0) {
      throw new IllegalStateException("this test makes too many calls on one object");
    }
    left--;
    return store;
  }

  @Override
  public void constant(int slot, boolean yes) {
    next().constant(slot, yes);
  }

  @Override
  public void variable(int slot, int v) {
    next().variable(slot, v);
  }

  @Override
  public boolean choose(int slot, int f, int g, int h) {
    return next().choose(slot, f, g, h);
  }

  @Override
  public boolean join(int slot, int kind, int f, int g) {
    return next().join(slot, kind, f, g);
  }

  @Override
  public boolean some(int slot, int f, int g, int mask) {
    return next().some(slot, f, g, mask);
  }

  @Override
  public boolean turn(int slot, int f) {
    return next().turn(slot, f);
  }

  @Override
  public boolean value(int slot, int way) {
    return next().value(slot, way);
  }

  @Override
  public boolean same(int slot, int other) {
    return next().same(slot, other);
  }

  @Override
  public int count(int slot) {
    return next().count(slot);
  }

  @Override
  public int support(int slot) {
    return next().support(slot);
  }

  @Override
  public int tidy(int what) {
    return next().tidy(what);
  }

  @Override
  public int wrong() {
    return next().wrong();
  }
}
