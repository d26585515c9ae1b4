/** The edges of processes, tables, paths and the text, by the words of the document's terms. */
public final class EdgesOfTablesTest {
  private static final String NO_PROCESS = "throws.IllegalArgumentException";
  private static final String NOTHING = "throws.NoSuchElementException";
  private static final String TOO_MUCH = "throws.UnsupportedOperationException";
  private static final String NO_MEMBER = "throws.IndexOutOfBoundsException";

  public static void main(String[] args) {
    Check check = new Check();
    processes(check);
    fourKeys(check);
    fourFiles(check);
    ownTables(check);
    standIns(check);
    nothingIsLeft(check);
    pieces(check);
    upwards(check);
    firstList(check);
    directoriesInOrder(check);
    lastComeTo(check);
    nothingFound(check);
    signsOfText(check);
    pathsOfText(check);
    check.end();
  }

  private static void processes(Check check) {
    check.says("PROCESSES 0 .. 3 have each a TABLE: for at most 4 files, the KEYS, a LIST of 1 to 4 files.");
    Grove grove = new Grove();
    for (int process = 0; process < 4; process++) {
      check.same("look of " + process, grove.look(process, "a"), "1");
      check.same("bind of " + process, grove.bind(process, 0, "b a"), "1");
      check.same("unbind of " + process, grove.unbind(process, "a"), "0");
    }
    for (int process : new int[] {-1, 4}) {
      check.same("look of " + process, grove.look(process, "a"), NO_PROCESS);
      check.same("bind of " + process, grove.bind(process, 0, "b a"), NO_PROCESS);
      check.same("unbind of " + process, grove.unbind(process, "a"), NO_PROCESS);
    }
  }

  private static void fourKeys(Check check) {
    Grove grove = new Grove();
    for (String key : new String[] {"a", "b", "c", "d"}) {
      check.same("key " + key, grove.bind(0, 0, "e " + key), "1");
    }
    check.same("a fifth key", grove.bind(0, 0, "e /"), TOO_MUCH);
    check.same("in another process", grove.bind(1, 0, "e /"), "1");
    check.same("one less", grove.unbind(0, "a"), "3");
    check.same("another fourth", grove.bind(0, 0, "d e"), "1");
  }

  private static void fourFiles(Check check) {
    Grove grove = new Grove();
    check.same("2", grove.bind(0, 2, "b a"), "2");
    check.same("3", grove.bind(0, 2, "c a"), "3");
    check.same("4", grove.bind(0, 2, "d a"), "4");
    check.same("5", grove.bind(0, 2, "e a"), TOO_MUCH);
    check.same("all", grove.list(0, "a"), "1 2 3 4");
  }

  private static void ownTables(Check check) {
    check.says("Two processes may have one table together; at first each one has its own, empty.");
    Grove grove = new Grove();
    for (int process = 0; process < 4; process++) {
      check.same("no key", grove.unbind(process, "a"), NOTHING);
      grove.bind(process, 0, "bcde".charAt(process) + " a");
    }
    for (int process = 0; process < 4; process++) {
      check.same("its own", grove.look(process, "a"), "" + (process + 2));
    }
    grove.yard.fork(0, 3, true);
    grove.bind(3, 0, "e a");
    check.same("together", grove.look(0, "a"), "5");
    check.same("another one", grove.look(1, "a"), "3");
  }

  private static void standIns(Check check) {
    check.says("U(f) is the list of f, if f is a key, without those that are gone; "
        + "else f alone, if it is not gone (perhaps nothing is left).");
    Grove grove = new Grove();
    check.same("no key", grove.list(0, "a"), "1");
    grove.bind(0, 0, "d a");
    check.same("itself is not in its list", grove.list(0, "a"), "4");
    grove.bind(0, 2, "e a");
    grove.bind(0, 2, "c a");
    check.same("a list", grove.list(0, "a"), "4 5 3");
    grove.wire.unmake(1, "e");
    check.same("the middle is gone", grove.list(0, "a"), "4 3");
    grove.wire.unmake(1, "d");
    check.same("the first is gone", grove.list(0, "a"), "3");
    check.same("a list is not of lists", grove.bind(0, 0, "b c"), "1");
    check.same("a list is not of lists", grove.list(0, "a"), "3");
    grove.wire.make(1, "d", Wire.DIRECTORY + 7);
    check.same("a new file of an old name", grove.list(0, "a"), "3");
  }

  private static void nothingIsLeft(Check check) {
    Grove grove = new Grove();
    grove.bind(0, 0, "d a");
    grove.bind(0, 0, "d /");
    grove.bind(1, 0, "d a");
    grove.wire.unmake(1, "d");
    check.same("an empty list", grove.look(1, "a"), NOTHING);
    check.same("an empty list", grove.member(1, 0, "a"), NO_MEMBER);
    check.same("nothing in it", grove.member(1, 0, "a/x"), NOTHING);
    check.same("it is a key", grove.unbind(1, "a"), "0");
    check.same("itself again", grove.look(1, "a"), "1");
    check.same("the root's list is empty", grove.member(0, 0, ""), NO_MEMBER);
    check.same("nothing in it", grove.member(0, 0, "b"), NOTHING);
    check.same("the root is a key", grove.unbind(0, "/"), "1");
    check.same("the root again", grove.list(0, "b"), "2");
  }

  private static void paths(Check check, String[][] due) {
    Grove grove = new Grove();
    for (String[] pair : due) {
      check.same("[" + pair[0] + "]", grove.look(0, pair[0]), pair[1]);
    }
  }

  private static void pieces(Check check) {
    check.says("A PATH is a row of characters: pieces parted by slashes, "
        + "of which empty ones and . count for nothing,");
    paths(check, new String[][] {
      {"", "0"}, {"/", "0"}, {"////", "0"}, {".", "0"}, {"/.", "0"}, {"./", "0"}, {"/././", "0"},
      {"a", "1"}, {"/a", "1"}, {"a/", "1"}, {"///a///", "1"}, {"./a", "1"}, {"a/.", "1"},
      {"a//x", "8"}, {"a/./x", "8"}, {"a/.//./x/w/.", "12"}, {"/a/x/w", "12"}, {"p/.", "6"}, {"p/", "6"},
      {"a.", NOTHING}, {".a", NOTHING}, {"...", NOTHING}, {"a/...", NOTHING}, {"ax", NOTHING},
    });
  }

  private static void upwards(Check check) {
    check.says("and .. takes away the piece before it that counts, if there is one.");
    paths(check, new String[][] {
      {"..", "0"}, {"/../..", "0"}, {"../a", "1"}, {"a/..", "0"}, {"a/../..", "0"}, {"a/../../b", "2"},
      {"a/x/..", "1"}, {"a/./..", "0"}, {"a//..", "0"}, {"a/.//./../b", "2"}, {"a/x/../../b/y", "10"},
      {"none/..", "0"}, {"none/../a", "1"}, {"a/none/../x", "8"}, {"p/x/..", "6"}, {"p/x/y/../..", "6"},
      {"longname/../a", "1"}, {".../../a", "1"}, {"a/b/c/d/../../../x", "8"}, {"a/x/w/../../../../b", "2"},
      {"a..", NOTHING}, {"..a", NOTHING}, {"a/..x", NOTHING}, {"none/../none", NOTHING},
    });
    Grove grove = new Grove();
    grove.bind(0, 0, "a d");
    check.same("it is not the parent of what stands there", grove.look(0, "d/x/.."), "1");
    check.same("last come to", grove.unbind(0, "d/x/.."), "0");
  }

  private static void firstList(Check check) {
    check.says("TO LOOK a path UP: there is a list of files, U(root) at first;");
    Grove grove = new Grove();
    check.same("no key", grove.list(0, ""), "0");
    grove.bind(0, 1, "a");
    check.same("a key", grove.list(0, ""), "1 0");
    check.same("in the first", grove.look(0, "x"), "8");
    check.same("in the second", grove.look(0, "b"), "2");
    grove.bind(1, 0, "b");
    check.same("without itself", grove.look(1, "x"), "9");
    check.same("without itself", grove.look(1, "a"), NOTHING);
  }

  private static void directoriesInOrder(Check check) {
    check.says("for each piece that is left: among the directories of the list, in order, "
        + "the first one with a child of this name:");
    Grove grove = new Grove();
    grove.bind(0, 2, "b a");
    check.same("the first has it", grove.look(0, "a/x"), "8");
    check.same("the second has it", grove.look(0, "a/y"), "10");
    grove.bind(1, 1, "b a");
    check.same("the other order", grove.look(1, "a/x"), "9");
    check.same("it does not go back", grove.look(1, "a/x/w"), NOTHING);
    grove.wire.unmake(1, "b", "x");
    check.same("what is gone is no child", grove.look(1, "a/x"), "8");
    grove.bind(2, 0, "p q");
    check.same("a plain file has none", grove.look(2, "q/x"), NOTHING);
    grove.wire.make(1, "s", Wire.DIRECTORY + 2);
    grove.wire.walk(1, 2, "s");
    grove.wire.make(2, "t", 0);
    check.same("what it may be does not matter", grove.look(3, "s/t"), "14");
  }

  private static void lastComeTo(Check check) {
    check.says("the list becomes U of it, and the child is the LAST one come to "
        + "(the root, if no piece is left);");
    Grove grove = new Grove();
    grove.bind(0, 0, "a b");
    grove.bind(0, 0, "c b");
    check.same("b is bound, not what stands for it", grove.look(0, "a"), "1");
    check.same("b", grove.look(0, "b"), "3");
    check.same("unbind by its name", grove.unbind(0, "b"), "0");
    grove.bind(1, 0, "a b");
    grove.bind(1, 0, "d b/x");
    check.same("the child in the other directory", grove.look(1, "a/x"), "4");
    grove.bind(2, 0, "a ..");
    check.same("no piece is left: the root", grove.look(2, ""), "1");
    check.same("no piece is left: the root", grove.unbind(2, "no/.."), "0");
    check.same("no piece is left: the root", grove.bind(3, 2, "a /./"), "2");
    check.same("not the first of its list", grove.unbind(3, ""), "0");
  }

  private static void nothingFound(Check check) {
    check.says("when there is none, nothing is found.");
    paths(check, new String[][] {
      {"none", NOTHING}, {"a/none", NOTHING}, {"none/a", NOTHING}, {"p/p", NOTHING}, {"aaaaa", NOTHING},
      {"a/x/w/v", NOTHING}, {"b/x/y", NOTHING}, {"aa", NOTHING}, {"a/a", NOTHING}, {"w", NOTHING},
    });
    Grove grove = new Grove();
    check.same("member", grove.member(0, 0, "none"), NOTHING);
    check.same("bind", grove.bind(0, 0, "none a"), NOTHING);
    check.same("unbind", grove.unbind(0, "none"), NOTHING);
  }

  private static void signsOfText(Check check) {
    check.says("THE TEXT has at most 60 characters, small letters, points, slashes and spaces;");
    for (int sign = 0; sign < 256; sign++) {
      boolean due = sign >= 'a' && sign <= 'z' || sign == '.' || sign == '/' || sign == ' ';
      for (int place = 0; place < 8; place++) {
        long word = 0x2f2f2f2f2f2f2f2fL & ~(255L << 8 * place) | (long) sign << 8 * place;
        check.same("sign " + sign + " at " + place, new MountYard().type(word, 8), due);
      }
    }
    Wire wire = new Wire();
    check.same("60", wire.type(" ".repeat(60)), true);
    check.same("61", wire.type(" "), false);
    Wire less = new Wire();
    check.same("59", less.type(" ".repeat(59)), true);
    check.same("61", less.type("  "), false);
    check.same("60", less.type(" "), true);
  }

  private static void pathsOfText(Check check) {
    check.says("up to the first space it is path A, behind that path B, further spaces too, "
        + "which no name has (all A when there is none; B may be empty then).");
    Grove grove = new Grove();
    check.same("A ends at the space", grove.look(0, "a none"), "1");
    check.same("A is empty", grove.look(0, " none"), "0");
    check.same("A is empty, B is found", grove.bind(0, 0, " a"), "1");
    check.same("a stands for the root", grove.look(0, "a/b"), "2");
    check.same("no space: B is empty", grove.bind(1, 0, "a"), "1");
    check.same("the root", grove.look(1, "x"), "8");
    check.same("nothing behind the space", grove.bind(2, 0, "a "), "1");
    check.same("the root", grove.look(2, "x"), "8");
    check.same("nothing at all", grove.bind(3, 2, ""), "2");
    String[] wrong = {"a  ", "a  b", "a b ", "a b c", "a . ", "a .. ", "a  .", "a  ..", "a b/ ", "a / b"};
    for (String text : wrong) {
      check.same("[" + text + "]", new Grove().bind(0, 0, text), NOTHING);
    }
    check.same("a piece of spaces is taken away", new Grove().bind(0, 0, "a   /../b"), "1");
    check.same("a piece with one is, too", new Grove().bind(0, 0, "a x y/../b"), "1");
  }
}
