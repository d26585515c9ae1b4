import java.util.Objects;

/** Counts the answers that are not as due, and ends the test with them. */
final class Check {
  private int wrong = 0;
  private int looked = 0;
  private String words = "";
  private int lookedBefore = 0;

  void same(String what, Object got, Object due) {
    looked++;
    if (!Objects.equals(got, due)) {
      wrong++;
      String place = words.isEmpty() ? "" : "[" + words + "] ";
      System.out.println(place + what + " answered " + got + ", due is " + due);
    }
  }

  /** The answer of a call as a text: its value, or throws. and the exception's name. */
  static String answer(java.util.concurrent.Callable<?> call) {
    try {
      return String.valueOf(call.call());
    } catch (Exception e) {
      return "throws." + e.getClass().getSimpleName();
    }
  }

  void call(String what, java.util.concurrent.Callable<?> call, Object due) {
    same(what, answer(call), String.valueOf(due));
  }

  /** What is looked at from here on is asked for by these words, which stand once in the document. */
  void says(String newWords) {
    endOfWords();
    words = newWords;
    lookedBefore = looked;
    if (!Document.hasOnce(newWords)) {
      wrong++;
      System.out.println("not once in the document: " + newWords);
    }
  }

  private void endOfWords() {
    if (!words.isEmpty() && looked == lookedBefore) {
      wrong++;
      System.out.println("nothing was looked at for: " + words);
    }
  }

  void end() {
    endOfWords();
    if (looked == 0) {
      System.out.println("nothing was looked at");
    }
    if (wrong != 0 || looked == 0) {
      System.exit(1);
    }
  }
}
