/** Promise 15: bind. */
public final class Promise15BindTest {
  private static final String NO_PROCESS = "throws.IllegalArgumentException";
  private static final String NOTHING = "throws.NoSuchElementException";
  private static final String WRONG_KINDS = "throws.IllegalStateException";
  private static final String TOO_MUCH = "throws.UnsupportedOperationException";

  public static void main(String[] args) {
    Check check = new Check();
    ways(check);
    pathsOfText(check);
    listsOfLists(check);
    wrongArguments(check);
    notFound(check);
    kinds(check);
    limitOfList(check);
    limitOfKeys(check);
    goneFiles(check);
    check.end();
  }

  private static void ways(Check check) {
    Grove grove = new Grove();
    check.same("0", grove.bind(0, 0, "a b"), "1");
    check.same("instead", grove.list(0, "b"), "1");
    check.same("1", grove.bind(0, 1, "c b"), "2");
    check.same("before", grove.list(0, "b"), "3 1");
    check.same("2", grove.bind(0, 2, "d b"), "3");
    check.same("behind", grove.list(0, "b"), "3 1 4");
    check.same("twice", grove.bind(0, 1, "d b"), "4");
    check.same("twice", grove.list(0, "b"), "4 3 1 4");
    check.same("0 again", grove.bind(0, 0, "e b"), "1");
    check.same("instead", grove.list(0, "b"), "5");
    check.same("1, no key", grove.bind(0, 1, "a c"), "2");
    check.same("before", grove.list(0, "c"), "1 3");
    check.same("2, no key", grove.bind(0, 2, "a d"), "2");
    check.same("behind", grove.list(0, "d"), "4 1");
    check.same("itself", grove.bind(1, 2, "a a"), "2");
    check.same("twice", grove.list(1, "a"), "1 1");
    check.same("the other processes", grove.list(2, "b"), "2");
  }

  private static void pathsOfText(Check check) {
    Grove grove = new Grove();
    check.same("no space: B is the root", grove.bind(0, 2, "a"), "2");
    check.same("the root", grove.list(0, ""), "0 1");
    check.same("a space: B is the root", grove.bind(1, 1, "a "), "2");
    check.same("the root", grove.list(1, ""), "1 0");
    check.same("A is empty", grove.bind(2, 0, " a"), "1");
    check.same("a is the root", grove.look(2, "a/b"), "2");
    check.same("both are empty", grove.bind(3, 2, ""), "2");
    check.same("the root", grove.list(3, ""), "0 0");
    check.same("a space is of no name", grove.bind(0, 0, "a b "), NOTHING);
    check.same("a space is of no name", grove.bind(0, 0, "a  b"), NOTHING);
    check.same("a space is no point", grove.bind(0, 0, "a  ."), NOTHING);
    check.same("a space is no point", grove.bind(0, 0, "a .. "), NOTHING);
    check.same("a piece of a space", grove.bind(0, 0, "a b/ /"), NOTHING);
    check.same("taken away", grove.bind(3, 0, "a b/ /../../c"), "1");
    check.same("c", grove.list(3, "c"), "1");
    check.same("long pieces are taken away, too", grove.bind(3, 0, "a so long/../d"), "1");
    check.same("d", grove.list(3, "d"), "1");
  }

  private static void listsOfLists(Check check) {
    Grove grove = new Grove();
    grove.bind(0, 2, "b a");
    check.same("the whole list of a", grove.bind(0, 1, "a c"), "3");
    check.same("c", grove.list(0, "c"), "1 2 3");
    check.same("a list is not followed on", grove.bind(0, 0, "e b"), "1");
    check.same("c", grove.list(0, "c"), "1 2 3");
    check.same("b is the file come to", grove.bind(0, 0, "d a/y"), "1");
    check.same("a/y", grove.list(0, "a/y"), "4");
    check.same("by a's own list", grove.unbind(0, "b"), "3");
    check.same("b/y is the same file", grove.list(0, "b/y"), "4");
    check.same("the root before", grove.bind(1, 1, "b /"), "2");
    check.same("both are looked up first", grove.bind(1, 0, "y x/.."), "1");
    check.same("the root's list", grove.list(1, ""), "10");
  }

  private static void wrongArguments(Check check) {
    Grove grove = new Grove();
    for (int process : new int[] {-1, 4, Integer.MAX_VALUE, Integer.MIN_VALUE}) {
      check.same("process " + process, grove.bind(process, 0, "a b"), NO_PROCESS);
      check.same("before all else", grove.bind(process, 3, "no no"), NO_PROCESS);
    }
    for (int how : new int[] {-1, 3, 4, Integer.MAX_VALUE, Integer.MIN_VALUE}) {
      check.same("how " + how, grove.bind(0, how, "a b"), NO_PROCESS);
      check.same("before all else", grove.bind(0, how, "no b"), NO_PROCESS);
    }
    check.same("no key was made", grove.unbind(0, "b"), NOTHING);
  }

  private static void notFound(Check check) {
    Grove grove = new Grove();
    for (int how = 0; how < 3; how++) {
      check.same("A", grove.bind(0, how, "no b"), NOTHING);
      check.same("B", grove.bind(0, how, "a no"), NOTHING);
      check.same("both", grove.bind(0, how, "no no"), NOTHING);
      check.same("before kinds", grove.bind(0, how, "p no"), NOTHING);
      check.same("in a plain file", grove.bind(0, how, "p/x b"), NOTHING);
    }
    check.same("no key was made", grove.unbind(0, "b"), NOTHING);
  }

  private static void kinds(Check check) {
    Grove grove = new Grove();
    check.same("plain for plain", grove.bind(0, 0, "p q"), "1");
    check.same("plain for directory", grove.bind(0, 0, "p b"), WRONG_KINDS);
    check.same("directory for plain", grove.bind(0, 0, "a p"), WRONG_KINDS);
    for (int how = 1; how < 3; how++) {
      check.same("plain for plain", grove.bind(0, how, "p q"), WRONG_KINDS);
      check.same("plain for directory", grove.bind(0, how, "p b"), WRONG_KINDS);
      check.same("directory for plain", grove.bind(0, how, "a p"), WRONG_KINDS);
      check.same("directory for directory", grove.bind(1, how, "a b").length(), 1);
    }
    check.same("nothing was changed", grove.list(0, "q") + " " + grove.list(0, "b"), "6 2");
  }

  private static void limitOfList(Check check) {
    Grove grove = new Grove();
    grove.bind(0, 2, "b a");
    grove.bind(0, 2, "c a");
    check.same("four", grove.bind(0, 2, "d a"), "4");
    for (int how = 1; how < 3; how++) {
      check.same("five", grove.bind(0, how, "e a"), TOO_MUCH);
      check.same("eight", grove.bind(0, how, "a a"), TOO_MUCH);
      check.same("five, a new key", grove.bind(0, how, "a e"), TOO_MUCH);
      check.same("kinds before", grove.bind(0, how, "a p"), WRONG_KINDS);
    }
    check.same("nothing was changed", grove.list(0, "a") + ", " + grove.list(0, "e"), "1 2 3 4, 5");
    check.same("e is no key", grove.unbind(0, "e"), NOTHING);
    check.same("how 0 with four", grove.bind(0, 0, "a e"), "4");
    check.same("e", grove.list(0, "e"), "1 2 3 4");
  }

  private static void limitOfKeys(Check check) {
    Grove grove = new Grove();
    String[] keys = {"a", "b", "c", "d"};
    for (String key : keys) {
      check.same("key " + key, grove.bind(0, 0, "e " + key), "1");
    }
    for (int how = 0; how < 3; how++) {
      check.same("a fifth", grove.bind(0, how, "e /"), TOO_MUCH);
      check.same("kinds before", grove.bind(0, how, "a p"), WRONG_KINDS);
      check.same("a key that is", grove.bind(0, how, "e d"), "" + (how + 1));
      check.same("another process", grove.bind(1, how, "a e").length(), 1);
    }
    check.same("unbind", grove.unbind(0, "c"), "3");
    check.same("now", grove.bind(0, 0, "e /"), "1");
  }

  private static void goneFiles(Check check) {
    Grove grove = new Grove();
    grove.bind(0, 0, "d c");
    grove.bind(0, 2, "e c");
    grove.bind(0, 0, "d a");
    grove.wire.unmake(1, "d");
    check.same("a is empty", grove.bind(0, 0, "a b"), NOTHING);
    check.same("U(b) is empty", grove.bind(0, 1, "b a"), "1");
    check.same("a", grove.list(0, "a"), "2");
    check.same("without the gone one", grove.bind(0, 1, "b c"), "2");
    check.same("c", grove.list(0, "c"), "2 5");
    check.same("room again", grove.bind(0, 2, "c c"), "4");
    check.same("c", grove.list(0, "c"), "2 5 2 5");
    goneKeys(check);
  }

  private static void goneKeys(Check check) {
    Grove grove = new Grove();
    grove.bind(0, 0, "a d");
    grove.bind(0, 0, "a e");
    grove.bind(0, 0, "a b");
    grove.bind(0, 0, "a c");
    grove.wire.unmake(1, "d");
    check.same("a gone key still counts", grove.bind(0, 0, "c /"), TOO_MUCH);
    grove.wire.make(1, "d", Wire.DIRECTORY + 7);
    check.same("a new file of this name is no key", grove.list(0, "d"), "13");
    check.same("nor can it be unbound", grove.unbind(0, "d"), NOTHING);
  }
}
