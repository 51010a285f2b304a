/** The twelve calls by number, with a row of numbers to take the arguments from. */
final class Calls {
  static final int KINDS = 12;
  static final int COUNT = 8;
  static final int TIDY = 10;

  /** What stands where in the row: four slots, a way or mask, a variable, a kind of join, a tidying. */
  static final int WAY = 4;
  static final int VARIABLE = 5;
  static final int KIND = 6;
  static final int WHAT = 7;

  private Calls() {
  }

  private static long asked(Store x, int call, int[] a) {
    switch (call) {
      case 0:
        x.constant(a[0], (a[WAY] & 1) == 1);
        return 0;
      case 1:
        x.variable(a[0], a[VARIABLE]);
        return 0;
      case 2:
        return x.choose(a[0], a[1], a[2], a[3]) ? 1 : 0;
      case 3:
        return x.join(a[0], a[KIND], a[1], a[2]) ? 1 : 0;
      case 4:
        return x.some(a[0], a[1], a[2], a[WAY]) ? 1 : 0;
      case 5:
        return x.turn(a[0], a[1]) ? 1 : 0;
      case 6:
        return x.value(a[0], a[WAY]) ? 1 : 0;
      case 7:
        return x.same(a[0], a[1]) ? 1 : 0;
      case COUNT:
        return x.count(a[0]);
      case 9:
        return x.support(a[0]);
      case TIDY:
        return x.tidy(a[WHAT]);
      default:
        return x.wrong();
    }
  }

  /** The answer, or a number below 0 that tells what is thrown. */
  static long outcome(Store x, int call, int[] a) {
    long[] answer = new long[1];
    int thrown = Checks.thrown(() -> answer[0] = asked(x, call, a));
    return thrown == Checks.NOTHING ? answer[0] : -1 - thrown;
  }
}
