/** The face of the document, so that a test can ask the class and the plain tables alike. */
interface Store {
  void constant(int slot, boolean yes);

  void variable(int slot, int v);

  boolean choose(int slot, int f, int g, int h);

  boolean join(int slot, int kind, int f, int g);

  boolean some(int slot, int f, int g, int mask);

  boolean turn(int slot, int f);

  boolean value(int slot, int way);

  boolean same(int slot, int other);

  int count(int slot);

  int support(int slot);

  int tidy(int what);

  int wrong();
}
