/** Promises 13 and 14: look and member. */
public final class Promise13To14LookTest {
  private static final String NOTHING = "throws.NoSuchElementException";
  private static final String NO_PROCESS = "throws.IllegalArgumentException";
  private static final String NO_MEMBER = "throws.IndexOutOfBoundsException";

  public static void main(String[] args) {
    Check check = new Check();
    paths(check);
    wrongArguments(check);
    lists(check);
    joinedDirectories(check);
    goneFiles(check);
    check.end();
  }

  private static void paths(Check check) {
    Grove grove = new Grove();
    String[][] due = {
      {"", "0"}, {"/", "0"}, {"//", "0"}, {".", "0"}, {"..", "0"}, {"/../..", "0"}, {"./.", "0"},
      {"a", "1"}, {"/a", "1"}, {"a/", "1"}, {"//a//", "1"}, {"./a/.", "1"}, {"../a", "1"},
      {"a/..", "0"}, {"a/x", "8"}, {"a/x/w", "12"}, {"a/x/..", "1"}, {"a/x/../..", "0"},
      {"a/x/../../b", "2"}, {"a/../../b/y", "10"}, {"no/..", "0"}, {"no/../a", "1"},
      {"p", "6"}, {"p/", "6"}, {"p/.", "6"}, {"p/..", "0"}, {"p/../q", "7"}, {"p/w/..", "6"},
      {"aaaaa/../a", "1"}, {".../../a", "1"}, {"a b", "1"}, {" a", "0"}, {"a  b c", "1"},
      {"no", NOTHING}, {"aa", NOTHING}, {"a/y", NOTHING}, {"p/x", NOTHING}, {"a/a", NOTHING},
      {"...", NOTHING}, {"a.", NOTHING}, {".a", NOTHING}, {"abcde", NOTHING}, {"a/no/x", NOTHING},
      {"no a", NOTHING}, {"a/x/w/w", NOTHING}, {"..a", NOTHING},
    };
    for (String[] pair : due) {
      check.same("look(0) of [" + pair[0] + "]", grove.look(0, pair[0]), pair[1]);
      check.same("member(3, 0) of [" + pair[0] + "]", grove.member(3, 0, pair[0]), pair[1]);
    }
  }

  private static void wrongArguments(Check check) {
    Grove grove = new Grove();
    for (int process : new int[] {4, -1, 5, Integer.MAX_VALUE, Integer.MIN_VALUE}) {
      check.same("look(" + process + ")", grove.look(process, "no"), NO_PROCESS);
      check.same("member(" + process + ", 0)", grove.member(process, 9, "no"), NO_PROCESS);
    }
    for (int k : new int[] {1, 2, -1, 4, Integer.MAX_VALUE, Integer.MIN_VALUE}) {
      check.same("member(0, " + k + ")", grove.member(0, k, "a"), NO_MEMBER);
      check.same("nothing found before", grove.member(0, k, "no"), NOTHING);
    }
  }

  private static void lists(Check check) {
    Grove grove = new Grove();
    grove.bind(0, 2, "b a");
    grove.bind(0, 2, "c a");
    check.same("the list of a", grove.list(0, "a"), "1 2 3");
    check.same("look", grove.look(0, "a"), "1");
    for (int k = 0; k < 3; k++) {
      check.same("member(0, " + k + ")", grove.member(0, k, "a"), "" + (k + 1));
    }
    for (int k : new int[] {3, 4, -1, Integer.MAX_VALUE, Integer.MIN_VALUE}) {
      check.same("member(0, " + k + ")", grove.member(0, k, "a"), NO_MEMBER);
    }
    check.same("another process", grove.list(1, "a"), "1");
  }

  private static void joinedDirectories(Check check) {
    Grove grove = new Grove();
    grove.bind(0, 2, "b a");
    grove.bind(0, 2, "c a");
    check.same("the first that has it", grove.look(0, "a/x"), "8");
    check.same("the second", grove.look(0, "a/y"), "10");
    check.same("the third", grove.look(0, "a/z"), "11");
    check.same("none", grove.look(0, "a/v"), NOTHING);
    check.same("behind the first", grove.look(0, "a/x/w"), "12");
    grove.bind(0, 1, "b a");
    check.same("now b is before a", grove.look(0, "a/x"), "9");
    check.same("a plain one has no children", grove.look(0, "a/x/w"), NOTHING);
    check.same("points are taken away before", grove.look(0, "a/y/.."), "2");
    grove.bind(1, 0, "p q");
    check.same("a plain file stands for another", grove.look(1, "q"), "6");
    grove.bind(1, 0, "a /");
    check.same("the root itself", grove.look(1, ""), "1");
    check.same("in it", grove.look(1, "x"), "8");
    check.same("what it had", grove.look(1, "a"), NOTHING);
  }

  private static void goneFiles(Check check) {
    Grove grove = new Grove();
    grove.bind(0, 0, "d e");
    grove.bind(0, 2, "a e");
    check.same("the list of e", grove.list(0, "e"), "4 1");
    grove.wire.unmake(1, "d");
    check.same("without one that is gone", grove.list(0, "e"), "1");
    check.same("look", grove.look(0, "e"), "1");
    check.same("in it", grove.look(0, "e/x"), "8");
    check.same("no name any more", grove.look(0, "d"), NOTHING);
    grove.bind(1, 0, "p q");
    grove.wire.unmake(1, "p");
    check.same("all of it is gone", grove.look(1, "q"), NOTHING);
    check.same("an empty list", grove.member(1, 0, "q"), NO_MEMBER);
    grove.bind(2, 0, "e /");
    grove.wire.unmake(1, "e");
    check.same("the root's list is empty", grove.look(2, ""), NOTHING);
    check.same("nothing is in it", grove.member(2, 0, "a"), NOTHING);
    check.same("an empty list", grove.member(2, 0, "/"), NO_MEMBER);
    check.same("another process", grove.look(3, ""), "0");
  }
}
