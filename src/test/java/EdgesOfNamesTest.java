/** The edges of promises 11 to 17, by the words of the document. */
public final class EdgesOfNamesTest {
  private static final String NO_PROCESS = "throws.IllegalArgumentException";
  private static final String NOTHING = "throws.NoSuchElementException";
  private static final String WRONG_KINDS = "throws.IllegalStateException";
  private static final String TOO_MUCH = "throws.UnsupportedOperationException";
  private static final String NO_MEMBER = "throws.IndexOutOfBoundsException";
  private static final int[] NO_PROCESSES = {-1, 4, 5, 256, Integer.MAX_VALUE, Integer.MIN_VALUE};

  public static void main(String[] args) {
    Check check = new Check();
    typed(check);
    notTyped(check);
    cleared(check);
    look(check);
    member(check);
    bindLists(check);
    bindWays(check);
    bindArguments(check);
    bindNotFound(check);
    bindKinds(check);
    bindTooMuch(check);
    unbind(check);
    unbindNot(check);
    forkTogether(check);
    forkApart(check);
    forkNot(check);
    check.end();
  }

  private static long word(String text) {
    byte[] bytes = new Bytes().raw(text).array();
    return Wire.word(bytes, 0, bytes.length);
  }

  private static void typed(Check check) {
    check.says("Puts n characters behind the text, the lowest byte of w first.");
    Grove grove = new Grove();
    grove.yard.clear();
    check.same("one", grove.yard.type(word("aQQQQQQQ"), 1), true);
    check.same("look", grove.yard.look(0), 1);
    check.same("two more", grove.yard.type(word("/x"), 2), true);
    check.same("look", grove.yard.look(0), 8);
    check.same("eight more", grove.yard.type(word("/w/.././"), 8), true);
    check.same("look", grove.yard.look(0), 8);
    check.same("one more", grove.yard.type(word("w"), 1), true);
    check.same("look", grove.yard.look(0), 12);
  }

  private static void notTyped(Check check) {
    check.says("False when n is not 1 .. 8, it would have more than 60, or one is not as said.");
    Grove grove = new Grove();
    grove.wire.text("a");
    for (int n : new int[] {0, -1, 9, 10, 16, 256 + 1, Integer.MAX_VALUE, Integer.MIN_VALUE}) {
      check.same("n " + n, grove.yard.type(word("xxxxxxxx"), n), false);
    }
    check.same("look", grove.yard.look(0), 1);
    for (String wrong : new String[] {"A", "xA", "xxxxxxxA", "Axxxxxxx", "\0", "x\0", "`", "{", "-", "0", "\u00e1"}) {
      check.same("[" + wrong + "]", grove.yard.type(word(wrong), wrong.length()), false);
    }
    check.same("look", grove.yard.look(0), 1);
    grove.wire.text("/".repeat(52) + "a");
    check.same("61", grove.yard.type(word("xxxxxxxx"), 8), false);
    check.same("look", grove.yard.look(0), 1);
    check.same("60", grove.yard.type(word("/x/////."), 7), true);
    check.same("look", grove.yard.look(0), 8);
    for (int n = 1; n <= 8; n++) {
      check.same("60 and " + n, grove.yard.type(word("////////"), n), false);
    }
  }

  private static void cleared(Check check) {
    check.says("The text is empty.");
    Grove grove = new Grove();
    grove.wire.text("none");
    grove.yard.clear();
    check.same("look", grove.yard.look(0), 0);
    check.same("60 have room", grove.wire.type("/".repeat(60)), true);
    grove.yard.clear();
    check.same("60 have room", grove.wire.type("/".repeat(60)), true);
    check.same("no more", grove.wire.type("/"), false);
    MountYard fresh = new MountYard();
    fresh.clear();
    check.same("of an empty text", fresh.look(0), 0);
  }

  private static void look(Check check) {
    check.says("Looks path A up for a process: the first file of the list that is left. "
        + "IllegalArgumentException when there is no such process; "
        + "NoSuchElementException when nothing is found, or the list is empty.");
    Grove grove = new Grove();
    grove.bind(3, 1, "b a");
    check.same("the first", grove.look(3, "a"), "2");
    check.same("of another process", grove.look(2, "a"), "1");
    check.same("path A alone", grove.look(0, "b none"), "2");
    for (int process : NO_PROCESSES) {
      check.same("process " + process, grove.look(process, "a"), NO_PROCESS);
      check.same("nothing found, process " + process, grove.look(process, "none"), NO_PROCESS);
    }
    check.same("nothing is found", grove.look(0, "none"), NOTHING);
    grove.bind(1, 0, "d c");
    grove.wire.unmake(1, "d");
    check.same("the list is empty", grove.look(1, "c"), NOTHING);
  }

  private static void member(Check check) {
    check.says("File k of the list to which path A leads for a process. "
        + "IllegalArgumentException when there is no such process; NoSuchElementException when nothing "
        + "is found; IndexOutOfBoundsException when the list has no file k.");
    Grove grove = new Grove();
    grove.bind(0, 2, "b a");
    grove.bind(0, 2, "c a");
    grove.bind(0, 2, "b a");
    int[] due = {1, 2, 3, 2};
    for (int k = 0; k < 4; k++) {
      check.same("file " + k, grove.member(0, k, "a"), "" + due[k]);
    }
    for (int k : new int[] {-1, 4, 5, Integer.MAX_VALUE, Integer.MIN_VALUE}) {
      check.same("file " + k, grove.member(0, k, "a"), NO_MEMBER);
      check.same("nothing found, file " + k, grove.member(0, k, "none"), NOTHING);
      check.same("no process, file " + k, grove.member(4, k, "a"), NO_PROCESS);
    }
    for (int process : NO_PROCESSES) {
      check.same("process " + process, grove.member(process, 0, "a"), NO_PROCESS);
      check.same("nothing found, process " + process, grove.member(process, 0, "none"), NO_PROCESS);
    }
    grove.bind(1, 0, "d e");
    grove.wire.unmake(1, "d");
    check.same("an empty list is found", grove.member(1, 0, "e"), NO_MEMBER);
    grove.wire.unmake(1, "c", "z");
    grove.wire.unmake(1, "c");
    check.same("behind one that is gone", grove.member(0, 2, "a"), "2");
    check.same("no fourth any more", grove.member(0, 3, "a"), NO_MEMBER);
  }

  private static void bindLists(Check check) {
    check.says("Let a be the list to which path A leads, b the last file come to on path B, "
        + "both for the process.");
    Grove grove = new Grove();
    grove.bind(0, 2, "b a");
    check.same("a whole list", grove.bind(0, 0, "a c"), "2");
    check.same("c", grove.list(0, "c"), "1 2");
    check.same("b is one file", grove.bind(0, 0, "d c"), "1");
    check.same("what stood for it is as it was", grove.list(0, "b"), "2");
    check.same("by another process", grove.bind(1, 0, "a c"), "1");
    check.same("c there", grove.list(1, "c"), "1");
    check.same("B by the table, too", grove.bind(0, 0, "e a/y"), "1");
    check.same("b/y", grove.list(0, "b/y"), "5");
  }

  private static void bindWays(Check check) {
    check.says("how 0: the list of b becomes a; 1: a and behind it U(b); 2: U(b) and behind it a "
        + "(a file that both have stands in it twice). (b becomes a key if it was none.) "
        + "Answers how many files the list has then.");
    String[] ways = {"2", "2 1", "1 2"};
    String[] waysOfKeys = {"2", "2 4 5", "4 5 2"};
    for (int how = 0; how < 3; how++) {
      Grove grove = new Grove();
      check.same("how " + how, grove.bind(0, how, "b a"), how == 0 ? "1" : "2");
      check.same("the list", grove.list(0, "a"), ways[how]);
      check.same("it is a key", grove.unbind(0, "a"), "0");
      grove.bind(0, 0, "d a");
      grove.bind(0, 2, "e a");
      check.same("a key, how " + how, grove.bind(0, how, "b a"), how == 0 ? "1" : "3");
      check.same("the list", grove.list(0, "a"), waysOfKeys[how]);
      check.same("it is one key", grove.unbind(0, "a"), "0");
      check.same("itself, how " + how, grove.bind(0, how, "c c"), how == 0 ? "1" : "2");
      check.same("twice", grove.list(0, "c"), how == 0 ? "3" : "3 3");
    }
    Grove grove = new Grove();
    grove.bind(0, 0, "d a");
    grove.bind(0, 2, "b a");
    grove.wire.unmake(1, "d");
    check.same("without what is gone", grove.bind(0, 2, "c a"), "2");
    check.same("the list", grove.list(0, "a"), "2 3");
    check.same("its own list twice", grove.bind(0, 1, "a a"), "4");
    check.same("the list", grove.list(0, "a"), "2 3 2 3");
  }

  private static void bindArguments(Check check) {
    check.says("IllegalArgumentException when there is no such process, or how is not 0 .. 2;");
    for (int process : NO_PROCESSES) {
      check.same("process " + process, new Grove().bind(process, 0, "a b"), NO_PROCESS);
    }
    for (int how : new int[] {-1, 3, 4, 256, Integer.MAX_VALUE, Integer.MIN_VALUE}) {
      Grove grove = new Grove();
      check.same("how " + how, grove.bind(0, how, "a b"), NO_PROCESS);
      check.same("not found, how " + how, grove.bind(0, how, "none none"), NO_PROCESS);
      check.same("kinds, how " + how, grove.bind(0, how, "p b"), NO_PROCESS);
      check.same("no key", grove.unbind(0, "b"), NOTHING);
    }
  }

  private static void bindNotFound(Check check) {
    check.says("NoSuchElementException when path A or B is not found, or a is empty;");
    for (int how = 0; how < 3; how++) {
      Grove grove = new Grove();
      check.same("A", grove.bind(0, how, "none b"), NOTHING);
      check.same("B", grove.bind(0, how, "a none"), NOTHING);
      check.same("both", grove.bind(0, how, "none none"), NOTHING);
      check.same("before kinds", grove.bind(0, how, "p none"), NOTHING);
      check.same("before kinds", grove.bind(0, how, "none p"), NOTHING);
      grove.bind(0, 0, "d a");
      grove.wire.unmake(1, "d");
      check.same("a is empty", grove.bind(0, how, "a b"), NOTHING);
      check.same("a is empty, before kinds", grove.bind(0, how, "a p"), NOTHING);
      check.same("a is empty, and b is it", grove.bind(0, how, "a a"), NOTHING);
      check.same("U(b) may be empty", grove.bind(0, how, "b a"), "1");
    }
    Grove grove = new Grove();
    for (String key : new String[] {"a", "b", "c", "e"}) {
      grove.bind(0, 0, "d " + key);
    }
    check.same("A, before too many keys", grove.bind(0, 0, "none /"), NOTHING);
    grove.wire.unmake(1, "d");
    check.same("a is empty, before too many keys", grove.bind(0, 0, "a /"), NOTHING);
  }

  private static void bindKinds(Check check) {
    check.says("IllegalStateException when not all of a and b are directories (how 0: or all plain);");
    String[] texts = {"a b", "p b", "a p", "p q", "p p"};
    String[][] due = {
      {"1", WRONG_KINDS, WRONG_KINDS, "1", "1"},
      {"2", WRONG_KINDS, WRONG_KINDS, WRONG_KINDS, WRONG_KINDS},
      {"2", WRONG_KINDS, WRONG_KINDS, WRONG_KINDS, WRONG_KINDS},
    };
    for (int how = 0; how < 3; how++) {
      for (int i = 0; i < texts.length; i++) {
        check.same("how " + how + " [" + texts[i] + "]", new Grove().bind(0, how, texts[i]), due[how][i]);
      }
    }
    Grove grove = new Grove();
    for (String key : new String[] {"a", "b", "c", "d"}) {
      grove.bind(0, 0, "e " + key);
    }
    check.same("before too many keys", grove.bind(0, 0, "e p"), WRONG_KINDS);
    check.same("before too many keys", grove.bind(0, 1, "p q"), WRONG_KINDS);
    check.same("too many keys", grove.bind(0, 0, "p q"), TOO_MUCH);
  }

  private static void bindTooMuch(Check check) {
    check.says("UnsupportedOperationException when the list would have more than 4 files, "
        + "or there would be more than 4 keys.");
    for (int how = 0; how < 3; how++) {
      Grove grove = new Grove();
      grove.bind(0, 2, "b a");
      grove.bind(0, 2, "c a");
      check.same("three and one, how " + how, grove.bind(0, how, "a d"), how == 0 ? "3" : "4");
      check.same("four and one", grove.bind(0, how, "d e"), how == 0 ? "3" : TOO_MUCH);
      check.same("three and three", grove.bind(0, how, "a a"), how == 0 ? "3" : TOO_MUCH);
      grove.bind(1, 0, "a b");
      grove.bind(1, 0, "a c");
      grove.bind(1, 0, "a d");
      check.same("a fourth key", grove.bind(1, how, "a e"), how == 0 ? "1" : "2");
      check.same("a fifth key", grove.bind(1, how, "b /"), TOO_MUCH);
      check.same("a key that is", grove.bind(1, how, "b e"), how == 0 ? "1" : "3");
      check.same("no fifth", grove.unbind(1, "/"), NOTHING);
    }
    Grove grove = new Grove();
    grove.bind(0, 0, "a b");
    grove.bind(0, 0, "a c");
    grove.bind(0, 0, "a d");
    grove.bind(0, 0, "a e");
    grove.wire.unmake(1, "e");
    check.same("a key that is gone is one", grove.bind(0, 0, "a /"), TOO_MUCH);
  }

  private static void unbind(Check check) {
    check.says("The last file come to on path A for the process is a key no more. "
        + "Answers how many keys are left.");
    Grove grove = new Grove();
    for (String key : new String[] {"a", "b", "c", "/"}) {
      grove.bind(0, 2, "e " + key);
    }
    check.same("b", grove.unbind(0, "b none"), "3");
    check.same("b", grove.list(0, "b"), "2");
    check.same("the root", grove.unbind(0, ""), "2");
    check.same("the root", grove.list(0, ""), "0");
    check.same("c", grove.unbind(0, "c"), "1");
    check.same("a is one still", grove.list(0, "a"), "1 5");
    check.same("a", grove.unbind(0, "a"), "0");
    check.same("a", grove.list(0, "a"), "1");
    grove.bind(1, 0, "a b");
    grove.bind(1, 0, "d a");
    check.same("b, for which a stands", grove.unbind(1, "b"), "1");
    check.same("a is one still", grove.list(1, "a"), "4");
  }

  private static void unbindNot(Check check) {
    check.says("IllegalArgumentException when there is no such process; "
        + "NoSuchElementException when path A is not found, or that file is no key.");
    Grove grove = new Grove();
    grove.bind(0, 0, "a b");
    for (int process : NO_PROCESSES) {
      check.same("process " + process, grove.unbind(process, "b"), NO_PROCESS);
      check.same("not found, process " + process, grove.unbind(process, "none"), NO_PROCESS);
    }
    check.same("not found", grove.unbind(0, "none"), NOTHING);
    check.same("what stands for a key is none", grove.unbind(0, "a"), NOTHING);
    check.same("of another process", grove.unbind(1, "b"), NOTHING);
    check.same("the root", grove.unbind(0, ""), NOTHING);
    check.same("b is one still", grove.unbind(0, "b"), "0");
    check.same("not twice", grove.unbind(0, "b"), NOTHING);
  }

  private static void forkTogether(Check check) {
    check.says("The process to gets a table: the one that from has, together with it (share),");
    Grove grove = new Grove();
    grove.bind(0, 0, "a b");
    grove.bind(1, 0, "a c");
    check.same("fork", grove.yard.fork(0, 1, true), true);
    check.same("what 0 has", grove.list(1, "b"), "1");
    check.same("not what 1 had", grove.list(1, "c"), "3");
    grove.bind(0, 2, "d b");
    check.same("1 sees what 0 does", grove.list(1, "b"), "1 4");
    check.same("1 unbinds", grove.unbind(1, "b"), "0");
    check.same("0 sees it", grove.list(0, "b"), "2");
    grove.yard.fork(2, 0, true);
    grove.bind(0, 0, "e a");
    check.same("1 is left alone", grove.list(1, "a"), "1");
    check.same("2 is with 0", grove.list(2, "a"), "5");
    check.same("already together", grove.yard.fork(2, 0, true), true);
    check.same("0 as before", grove.list(0, "a"), "5");
  }

  private static void forkApart(Check check) {
    check.says("or one of its own, the same for now.");
    Grove grove = new Grove();
    grove.bind(0, 2, "b a");
    grove.bind(1, 0, "a c");
    check.same("fork", grove.yard.fork(0, 1, false), true);
    check.same("the same", grove.list(1, "a"), "1 2");
    check.same("not what 1 had", grove.list(1, "c"), "3");
    grove.bind(0, 2, "c a");
    check.same("for now: 0 does", grove.list(1, "a"), "1 2");
    check.same("for now: 1 does", grove.unbind(1, "a"), "0");
    check.same("0 has its own", grove.list(0, "a"), "1 2 3");
    for (int to = 1; to < 4; to++) {
      grove.yard.fork(0, to, true);
    }
    check.same("one leaves", grove.yard.fork(0, 2, false), true);
    grove.unbind(2, "a");
    check.same("the others stay together", grove.bind(3, 2, "d a"), "4");
    check.same("0", grove.list(0, "a"), "1 2 3 4");
    check.same("1", grove.list(1, "a"), "1 2 3 4");
    check.same("2", grove.list(2, "a"), "1");
    check.same("the one that was copied leaves", grove.yard.fork(2, 0, false), true);
    grove.bind(0, 0, "e a");
    check.same("2", grove.list(2, "a"), "1");
    check.same("1", grove.list(1, "a"), "1 2 3 4");
    forkAllApart(check);
  }

  /** From one table for all, each process comes to have its own, in every order of leaving. */
  private static void forkAllApart(Check check) {
    for (int first = 0; first < 4; first++) {
      for (int step = 1; step < 4; step += 2) {
        Grove grove = new Grove();
        for (int i = 1; i < 4; i++) {
          grove.yard.fork(first, (first + i) % 4, true);
        }
        for (int i = 0; i < 4; i++) {
          int process = (first + i * step) % 4;
          grove.yard.fork((process + 1) % 4, process, false);
          grove.bind(process, 0, "bcde".charAt(process) + " a");
        }
        for (int process = 0; process < 4; process++) {
          String what = process + ", where " + first + " was the first, then by " + step;
          check.same(what, grove.list(process, "a"), "" + (process + 2));
        }
      }
    }
  }

  private static void forkNot(Check check) {
    check.says("False when there is no such process, or both are one.");
    Grove grove = new Grove();
    grove.bind(0, 0, "a b");
    for (boolean share : new boolean[] {true, false}) {
      for (int process : NO_PROCESSES) {
        check.same("from " + process, grove.yard.fork(process, 0, share), false);
        check.same("to " + process, grove.yard.fork(0, process, share), false);
        check.same("both " + process, grove.yard.fork(process, process, share), false);
      }
      for (int process = 0; process < 4; process++) {
        check.same("both " + process, grove.yard.fork(process, process, share), false);
      }
    }
    check.same("0 as before", grove.list(0, "b"), "1");
    check.same("1 as before", grove.list(1, "b"), "2");
  }
}
