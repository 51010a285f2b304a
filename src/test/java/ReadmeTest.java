/** The example of README.md, line by line: each answer is the one that its comment tells. */
public final class ReadmeTest {
  private static final Checks CHECKS = new Checks();

  public static void main(String[] args) {
    DiagramStore store = new DiagramStore();
    store.variable(0, 0);
    store.variable(1, 2);
    CHECKS.due("join", store.join(2, 0, 0, 1), true);
    CHECKS.due("choose", store.choose(3, 0, 1, 2), true);
    CHECKS.due("same", store.same(2, 3), true);
    CHECKS.due("value", store.value(2, 5), true);
    CHECKS.due("support", store.support(2), 5);
    CHECKS.due("count", store.count(2), 16);
    CHECKS.due("some", store.some(4, 2, 2, 4), true);
    CHECKS.due("same as variable 0", store.same(4, 0), true);
    CHECKS.due("turn", store.turn(5, 2), true);
    CHECKS.due("tidy", store.tidy(1), 6);
    CHECKS.due("wrong", store.wrong(), 0);
    CHECKS.end("ReadmeTest");
  }
}
