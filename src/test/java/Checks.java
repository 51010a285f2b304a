/** Counts and prints what is not as due; a test ends with exit code 1 if there was anything. */
final class Checks {
  static final int NOTHING = 0;
  static final int ILLEGAL_ARGUMENT = 1;
  static final int UNSUPPORTED = 2;
  static final int ANYTHING_ELSE = 3;

  interface Call {
    void run();
  }

  private int wrong;
  private String sentence = "";

  /** Runs the test of one sentence of the document; what is not as due is printed with the sentence. */
  void sentence(String quoted, Call test) {
    sentence = "'" + quoted + "': ";
    due("the test throws (0 nothing, 1 IllegalArgument, 2 UnsupportedOperation, 3 other)", thrown(test), NOTHING);
    sentence = "";
  }

  void due(String what, long got, long want) {
    if (got != want) {
      wrong++;
      if (wrong <= 20) {
        System.out.println(sentence + what + " answered " + got + ", due is " + want);
      }
    }
  }

  void due(String what, boolean got, boolean want) {
    due(what, got ? 1L : 0L, want ? 1L : 0L);
  }

  void dueThrow(String what, Call call, int want) {
    due(what + " throws (0 nothing, 1 IllegalArgument, 2 UnsupportedOperation, 3 other)", thrown(call), want);
  }

  static int thrown(Call call) {
    try {
      call.run();
      return NOTHING;
    } catch (RuntimeException e) {
      if (e.getClass() == IllegalArgumentException.class) {
        return ILLEGAL_ARGUMENT;
      }
      return e.getClass() == UnsupportedOperationException.class ? UNSUPPORTED : ANYTHING_ELSE;
    }
  }

  void end(String name) {
    System.out.println(name + ": " + (wrong == 0 ? "all answers are as due" : wrong + " answers are not as due"));
    if (wrong != 0) {
      System.exit(1);
    }
  }
}
