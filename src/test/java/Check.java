import java.util.Objects;

/** Counts the answers that are not as due, and ends the test with them. */
final class Check {
  private int wrong = 0;
  private int looked = 0;

  void same(String what, Object got, Object due) {
    looked++;
    if (!Objects.equals(got, due)) {
      wrong++;
      System.out.println(what + " answered " + got + ", due is " + due);
    }
  }

  /** The answer of a call as a text: its value, or throws. and the exception's name. */
  static String answer(java.util.concurrent.Callable<?> call) {
    try {
      return String.valueOf(call.call());
    } catch (Exception e) {
      return "throws." + e.getClass().getSimpleName();
    }
  }

  void call(String what, java.util.concurrent.Callable<?> call, Object due) {
    same(what, answer(call), String.valueOf(due));
  }

  void end() {
    if (looked == 0) {
      System.out.println("nothing was looked at");
    }
    if (wrong != 0 || looked == 0) {
      System.exit(1);
    }
  }
}
