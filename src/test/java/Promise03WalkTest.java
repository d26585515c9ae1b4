/** Promise 3, the replies to 110. */
public final class Promise03WalkTest {
  public static void main(String[] args) {
    Check check = new Check();
    steps(check);
    partOfTheWay(check);
    newHandles(check);
    orderOfErrors(check);
    rights(check);
    goneFile(check);
    form(check);
    check.end();
  }

  /** Files: 1 a (directory), 2 a/b (directory), 3 a/b/c (plain), 4 d (plain). */
  private static Wire planted() {
    Wire wire = Wire.attached(1);
    wire.make(1, "a", Wire.DIRECTORY + 7);
    wire.walk(1, 2, "a");
    wire.make(2, "b", Wire.DIRECTORY + 7);
    wire.walk(2, 3, "b");
    wire.make(3, "c", 7);
    wire.make(1, "d", 7);
    wire.close(2);
    wire.close(3);
    return wire;
  }

  private static String walked(Bytes... qids) {
    Bytes body = new Bytes().number(qids.length, 2);
    for (Bytes qid : qids) {
      body.raw(qid.array());
    }
    return Bytes.reply(111, body);
  }

  private static Bytes qid(boolean directory, int version, int file) {
    return new Bytes().qid(directory, version, file);
  }

  private static final Bytes ROOT = qid(true, 2, 0);
  private static final Bytes A = qid(true, 1, 1);
  private static final Bytes B = qid(true, 1, 2);
  private static final Bytes C = qid(false, 0, 3);
  private static final Bytes D = qid(false, 0, 4);

  private static void steps(Check check) {
    Wire wire = planted();
    check.same("none", wire.walk(1, 2), walked());
    check.same("it stands at the root", wire.walk(2, 2, "a"), walked(A));
    check.same("it moved", wire.walk(2, 2, "b"), walked(B));
    check.same("down", wire.walk(2, 2, "c"), walked(C));
    check.same("up from a plain file", wire.walk(2, 2, ".."), walked(B));
    check.same("four", wire.walk(1, 3, "a", "b", "..", "b"), walked(A, B, A, B));
    check.same("above the root", wire.walk(1, 1, "..", ".."), walked(ROOT, ROOT));
    check.same("plain and up", wire.walk(1, 4, "d", "..", "d"), walked(D, ROOT, D));
    check.same("where it stands", wire.stat(4),
        Bytes.reply(125, new Bytes().stat(false, 0, 4, 7, 0, "d")));
    check.same("handles()", wire.yard.handles(), 4);
  }

  private static void partOfTheWay(Check check) {
    Wire wire = planted();
    check.same("first is none", wire.walk(1, 2, "x", "a"), Bytes.error('n'));
    check.same("second is none", wire.walk(1, 2, "a", "x"), walked(A));
    check.same("last is none", wire.walk(1, 2, "a", "b", "c", "x"), walked(A, B, C));
    check.same("handles()", wire.yard.handles(), 1);
    check.same("no new one", wire.stat(2), Bytes.error('h'));
    wire.walk(1, 1, "a");
    check.same("the same one", wire.walk(1, 1, "b", "x"), walked(B));
    check.same("has not moved", wire.walk(1, 2, "b", "c"), walked(B, C));
    String[] wrong = {"", ".", "...", "abcde", "B", "b\0", "bb", "b/", "c"};
    for (String name : wrong) {
      check.same("[" + name + "]", wire.walk(1, 3, name), Bytes.error('n'));
      check.same("behind a good one [" + name + "]", wire.walk(1, 3, "..", name), walked(ROOT));
    }
    check.same("from a plain file", wire.walk(2, 3, "x"), Bytes.error('d'));
    check.same("from a plain file", wire.walk(2, 3, ""), Bytes.error('d'));
    check.same("handles()", wire.yard.handles(), 2);
  }

  private static void newHandles(Check check) {
    Wire wire = planted();
    wire.walk(1, 2, "a");
    check.same("there is one", wire.walk(1, 2), Bytes.error('h'));
    check.same("NONE", wire.walk(1, Wire.NONE), Bytes.error('h'));
    check.same("from NONE", wire.walk(Wire.NONE, Wire.NONE), Bytes.error('h'));
    check.same("no such", wire.walk(5, 6), Bytes.error('h'));
    for (int i = 3; i <= 8; i++) {
      check.same("new " + i, wire.walk(1, i), walked());
    }
    check.same("ninth", wire.walk(1, 9), Bytes.error('l'));
    check.same("ninth along a wrong way", wire.walk(1, 9, "x"), Bytes.error('l'));
    check.same("itself", wire.walk(1, 1, "a"), walked(A));
    check.same("h before l", wire.walk(1, 8), Bytes.error('h'));
    check.same("handles()", wire.yard.handles(), 8);
  }

  private static void orderOfErrors(Check check) {
    Wire wire = planted();
    wire.walk(1, 2, "d");
    wire.open(2, 0);
    check.same("open", wire.walk(2, 3), Bytes.error('o'));
    check.same("open, to itself", wire.walk(2, 2), Bytes.error('o'));
    check.same("open, to one that is", wire.walk(2, 1), Bytes.error('o'));
    wire.walk(1, 3, "d");
    wire.unmake(1, "d");
    check.same("open and gone", wire.walk(2, 4), Bytes.error('o'));
    check.same("gone, to one that is", wire.walk(3, 1), Bytes.error('h'));
    for (int i = 4; i <= 8; i++) {
      wire.walk(1, i);
    }
    check.same("gone and full", wire.walk(3, 9), Bytes.error('l'));
    check.same("gone, to itself", wire.walk(3, 3), Bytes.error('g'));
  }

  private static void rights(Check check) {
    for (int rights = 0; rights < 8; rights++) {
      Wire wire = Wire.attached(1);
      wire.walk(1, 2);
      wire.create(2, "a", Wire.DIRECTORY + rights, 0);
      wire.close(2);
      wire.walk(1, 2, "a");
      boolean through = rights % 2 == 1;
      String due = Bytes.error(through ? 'n' : 'm');
      check.same("rights " + rights, wire.walk(2, 3, "x"), due);
      check.same("up " + rights, wire.walk(2, 3, ".."), walked(qid(true, 1, 0)));
    }
  }

  private static void goneFile(Check check) {
    Wire wire = planted();
    wire.walk(1, 2, "d");
    wire.unmake(1, "d");
    check.same("gone", wire.walk(2, 3), Bytes.error('g'));
    check.same("gone, up", wire.walk(2, 3, ".."), Bytes.error('g'));
    check.same("no child", wire.walk(1, 3, "d"), Bytes.error('n'));
    wire.make(1, "d", 5);
    check.same("another one", wire.walk(1, 3, "d"), walked(qid(false, 0, 5)));
    check.same("still gone", wire.walk(2, 4), Bytes.error('g'));
  }

  private static Bytes body(int count, String... names) {
    Bytes body = new Bytes().number(1, 4).number(2, 4).number(count, 2);
    for (String name : names) {
      body.string(name);
    }
    return body;
  }

  private static void form(Check check) {
    Wire wire = planted();
    String wrong = Bytes.error('f');
    check.same("five", wire.send(110, body(5, "a", "..", "a", "..", "a")), wrong);
    check.same("256", wire.send(110, body(256)), wrong);
    check.same("too few", wire.send(110, body(2, "a")), wrong);
    check.same("too many", wire.send(110, body(0, "a")), wrong);
    check.same("more", wire.send(110, body(1, "a").raw("x")), wrong);
    byte[] good = body(2, "a", "b").array();
    for (int n = 0; n < good.length; n++) {
      check.same("the first " + n, wire.send(110, 3, java.util.Arrays.copyOf(good, n)), wrong);
    }
    Bytes longOne = new Bytes().number(1, 4).number(2, 4).number(1, 2).number(65535, 2).raw("a");
    check.same("a long string", wire.send(110, longOne), wrong);
    check.same("good", wire.send(110, 3, good), walked(A, B));
  }
}
