/** Promises 16 and 17: unbind and fork. */
public final class Promise16To17TableTest {
  private static final String NO_PROCESS = "throws.IllegalArgumentException";
  private static final String NOTHING = "throws.NoSuchElementException";

  public static void main(String[] args) {
    Check check = new Check();
    unbind(check);
    unbindLastComeTo(check);
    wrongForks(check);
    share(check);
    copy(check);
    manyForks(check);
    check.end();
  }

  private static void unbind(Check check) {
    for (String first : new String[] {"a", "b", "c", "d"}) {
      Grove grove = new Grove();
      for (String key : new String[] {"a", "b", "c", "d"}) {
        grove.bind(0, 0, "e " + key);
      }
      check.same("unbind " + first, grove.unbind(0, first), "3");
      check.same("again", grove.unbind(0, first), NOTHING);
      check.same("itself", grove.look(0, first), "" + (first.charAt(0) - 'a' + 1));
      int left = 3;
      for (String key : new String[] {"d", "c", "b", "a"}) {
        if (!key.equals(first)) {
          left--;
          check.same("still there", grove.list(0, key), "5");
          check.same("unbind " + key, grove.unbind(0, key), "" + left);
        }
      }
    }
    Grove grove = new Grove();
    for (int process : new int[] {-1, 4, Integer.MAX_VALUE, Integer.MIN_VALUE}) {
      check.same("process " + process, grove.unbind(process, "no"), NO_PROCESS);
    }
    check.same("no key", grove.unbind(0, "a"), NOTHING);
    check.same("not found", grove.unbind(0, "no"), NOTHING);
  }

  private static void unbindLastComeTo(Check check) {
    Grove grove = new Grove();
    grove.bind(0, 0, "a b");
    grove.bind(0, 0, "d b/x");
    check.same("b/x is a/x", grove.list(0, "a/x"), "4");
    check.same("unbind", grove.unbind(0, "b/x"), "1");
    check.same("a/x", grove.list(0, "a/x"), "8");
    check.same("not the file that stands for it", grove.unbind(0, "a"), NOTHING);
    check.same("unbind", grove.unbind(0, "b"), "0");
    grove.bind(0, 0, "a /");
    check.same("the root", grove.unbind(0, ""), "0");
    grove.bind(1, 0, "p q");
    grove.wire.unmake(1, "p");
    check.same("a list of which nothing is left", grove.unbind(1, "q"), "0");
    check.same("itself", grove.look(1, "q"), "7");
    grove.bind(2, 0, "a b");
    check.same("path A alone", grove.unbind(2, "b no"), "0");
  }

  private static void wrongForks(Check check) {
    Grove grove = new Grove();
    grove.bind(0, 0, "a b");
    int[] wrong = {-1, 4, Integer.MAX_VALUE, Integer.MIN_VALUE};
    for (int process : wrong) {
      for (boolean share : new boolean[] {true, false}) {
        check.same("from " + process, grove.yard.fork(process, 1, share), false);
        check.same("to " + process, grove.yard.fork(1, process, share), false);
        check.same("both " + process, grove.yard.fork(process, process, share), false);
      }
    }
    for (int process = 0; process < 4; process++) {
      check.same("itself", grove.yard.fork(process, process, true), false);
      check.same("itself", grove.yard.fork(process, process, false), false);
    }
    check.same("nothing was changed", grove.list(0, "b") + grove.list(1, "b"), "12");
  }

  private static void share(Check check) {
    Grove grove = new Grove();
    grove.bind(0, 0, "a b");
    grove.bind(1, 0, "c d");
    check.same("fork", grove.yard.fork(0, 1, true), true);
    check.same("what 0 had", grove.list(1, "b"), "1");
    check.same("not what 1 had", grove.list(1, "d"), "4");
    grove.bind(1, 0, "e c");
    check.same("0 sees it", grove.list(0, "c"), "5");
    check.same("unbind", grove.unbind(0, "b"), "1");
    check.same("1 sees it", grove.list(1, "b"), "2");
    check.same("three", grove.yard.fork(1, 2, true), true);
    grove.bind(2, 0, "a e");
    check.same("0 sees it", grove.list(0, "e"), "1");
    check.same("again", grove.yard.fork(2, 0, true), true);
    check.same("the same", grove.list(0, "e"), "1");
    check.same("3 has its own", grove.list(3, "e"), "5");
    check.same("back to its own", grove.yard.fork(3, 0, true), true);
    check.same("0 has 3's", grove.list(0, "e"), "5");
    check.same("1 has not", grove.list(1, "e"), "1");
  }

  private static void copy(Check check) {
    Grove grove = new Grove();
    grove.bind(0, 0, "a b");
    grove.bind(0, 2, "c b");
    grove.bind(1, 0, "c d");
    check.same("fork", grove.yard.fork(0, 1, false), true);
    check.same("what 0 has", grove.list(1, "b"), "1 3");
    check.same("not what 1 had", grove.list(1, "d"), "4");
    grove.bind(1, 2, "e b");
    check.same("0 has its own", grove.list(0, "b"), "1 3");
    grove.unbind(0, "b");
    check.same("1 has its own", grove.list(1, "b"), "1 3 5");
    grove.yard.fork(1, 2, true);
    check.same("apart again", grove.yard.fork(1, 2, false), true);
    check.same("the same for now", grove.list(2, "b"), "1 3 5");
    grove.unbind(2, "b");
    check.same("1 has its own", grove.list(1, "b"), "1 3 5");
  }

  private static void manyForks(Check check) {
    Grove grove = new Grove();
    grove.bind(0, 0, "a b");
    for (int to = 1; to < 4; to++) {
      grove.yard.fork(0, to, true);
    }
    for (int to = 3; to >= 0; to--) {
      grove.yard.fork((to + 1) % 4, to, false);
      grove.bind(to, 2, "e b");
    }
    String[] due = {"1 5 5 5", "1 5 5 5", "1 5 5", "1 5"};
    for (int process = 0; process < 4; process++) {
      check.same("process " + process, grove.list(process, "b"), due[process]);
    }
    for (int i = 0; i < 40; i++) {
      grove.yard.fork(i % 4, (i * 7 + 1) % 4, i % 3 == 0);
      grove.yard.fork((i + 2) % 4, (i + 1) % 4, i % 2 == 0);
    }
    check.same("a table is always there", grove.list(3, "b").startsWith("1"), true);
  }
}
