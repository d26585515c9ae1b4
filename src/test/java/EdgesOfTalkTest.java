import java.util.Arrays;

/** The edges of the messages 100, 104, 108 and 110, by the words of the document. */
public final class EdgesOfTalkTest {
  private static final String ROOT = "80" + "00000000" + "0000000000000000";

  public static void main(String[] args) {
    Check check = new Check();
    beginTooLow(check);
    limits(check);
    handlesAfterBegin(check);
    dialects(check);
    attach(check);
    attachToTheRoot(check);
    flush(check);
    walkOfOpenHandles(check);
    newHandles(check);
    stepsUp(check);
    stepsDown(check);
    firstError(check);
    laterErrors(check);
    endOfTheWay(check);
    check.end();
  }

  private static String begun(long most, String dialect) {
    return Bytes.reply(101, new Bytes().number(most, 4).string(dialect));
  }

  private static void beginTooLow(Check check) {
    check.says("100 BEGIN: m in 4 bytes, a string. l: m (never negative) is below 64.");
    for (long low : new long[] {0, 1, 7, 62, 63}) {
      Wire wire = new Wire();
      check.same("m " + low, wire.begin(low, "9P2000"), Bytes.error('l'));
      check.same("not begun", wire.attach(1), Bytes.error('v'));
    }
    check.same("64", new Wire().begin(64, "9P2000"), begun(64, "9P2000"));
    for (long high : new long[] {1L << 31, (1L << 31) + 1, 4294967295L, 1L << 8, 1L << 16, 1L << 24}) {
      check.same("m " + high, new Wire().begin(high, "9P2000"), begun(160, "9P2000"));
    }
    Wire wire = Wire.attached(1);
    check.same("in a talk", wire.begin(63, "none"), Bytes.error('l'));
    check.same("which goes on", wire.stat(1).startsWith("125"), true);
  }

  private static void limits(Check check) {
    check.says("M is m, or 160 if that is more;");
    for (int most : new int[] {64, 65, 127, 128, 159, 160, 161, 255, 256, 1000}) {
      int due = Math.min(most, 160);
      for (String dialect : new String[] {"9P2000", "unknown"}) {
        Wire wire = new Wire();
        check.same("m " + most, wire.begin(most, dialect),
            begun(due, dialect));
        wire.feed(Bytes.frame(99, 1, new byte[due - 7]));
        check.call("a frame of " + due, wire.yard::serve, 107);
        wire.feed(new Bytes().number(due + 1, 4).array());
        check.call("a frame of " + (due + 1), wire.yard::serve, 0);
      }
    }
    Wire wire = new Wire();
    wire.begin(64, "9P2000");
    check.same("greater again", wire.begin(150, "9P2000"), begun(150, "9P2000"));
    wire.begin(63, "9P2000");
    wire.feed(Bytes.frame(99, 1, new byte[143]));
    check.call("after l M is as before", wire.yard::serve, 107);
  }

  private static void handlesAfterBegin(Check check) {
    check.says("there are no handles; the talk is begun if the string begins with 9P2000, else it is not.");
    for (String dialect : new String[] {"9P2000", "none"}) {
      Wire wire = Wire.attached(1);
      wire.attach(2);
      wire.begin(100, dialect);
      check.same("handles()", wire.yard.handles(), 0);
      wire.begin(100, "9P2000");
      check.same("no handle 1", wire.stat(1), Bytes.error('h'));
    }
  }

  private static void dialects(Check check) {
    for (String good : new String[] {"9P2000", "9P2000.", "9P2000.L", "9P20000", "9P2000\0", "9P20009P2000"}) {
      Wire wire = new Wire();
      wire.begin(100, good);
      check.same("[" + good + "]", wire.attach(1), "105:" + ROOT);
    }
    String[] wrong = {"", "9", "9P200", "9P", "9p2000", " 9P2000", "9P2001", "9P2O00", "8P2000", "9P\0" + "2000",
        "09P2000", "0002P9", "unknown", "9Q2000", "9P3000", "9P2100", "9P2010"};
    for (String one : wrong) {
      Wire wire = Wire.begun();
      wire.begin(100, one);
      check.same("[" + one + "]", wire.attach(1), Bytes.error('v'));
    }
    check.says("Reply: M in 4, the string 9P2000 or, if it is not begun, unknown.");
    check.same("bytes", new Wire().begin(100, "9P2000.u"), "101:64000000" + "0600" + "395032303030");
    check.same("bytes", new Wire().begin(70, "9P200"), "101:46000000" + "0700" + "756e6b6e6f776e");
  }

  private static Bytes attachBody(long handle, long other) {
    return new Bytes().number(handle, 4).number(other, 4).string("").string("");
  }

  private static void attach(Check check) {
    check.says("104 ATTACH: handle, other handle, two strings. a: the other one is not NONE.");
    for (long other : new long[] {0, 1, 2, 1L << 31, 4294967294L, 0x7fffffffL, 0xffffffL, 0xffffff00L}) {
      Wire wire = Wire.attached(1);
      check.same("other " + other, wire.send(104, attachBody(2, other)), Bytes.error('a'));
      check.same("handles()", wire.yard.handles(), 1);
    }
    check.same("NONE", Wire.attached(1).send(104, attachBody(2, Wire.NONE)), "105:" + ROOT);
    check.says("h: the handle is NONE or there is one with this number.");
    Wire wire = Wire.attached(1);
    check.same("NONE", wire.attach(Wire.NONE), Bytes.error('h'));
    check.same("one that is", wire.attach(1), Bytes.error('h'));
    check.same("handles()", wire.yard.handles(), 1);
    wire.close(1);
    check.same("one that was", wire.attach(1), "105:" + ROOT);
  }

  private static void attachToTheRoot(Check check) {
    check.says("l: there are 8. The handle stands at the root. Reply: its qid.");
    Wire wire = Wire.begun();
    for (int i = 1; i <= 8; i++) {
      check.same("handle " + i, wire.attach(i), "105:" + ROOT);
    }
    check.same("a ninth", wire.attach(9), Bytes.error('l'));
    check.same("handles()", wire.yard.handles(), 8);
    check.same("no such", wire.stat(9), Bytes.error('h'));
    wire.create(8, "a", 7, 0);
    wire.close(8);
    check.same("the root as it is", wire.attach(8), Bytes.reply(105, new Bytes().qid(true, 1, 0)));
    check.same("it stands there, not open", wire.read(8, 0, 1), Bytes.error('o'));
    check.same("its stat", wire.stat(8), Bytes.reply(125, new Bytes().stat(true, 1, 0, 7, 0, "")));
  }

  private static void flush(Check check) {
    check.says("108 FLUSH: a tag (2 bytes). Reply: nothing.");
    for (int old : new int[] {0, 1, 65535}) {
      check.same("tag " + old, Wire.begun().send(108, new Bytes().number(old, 2)), "109:");
    }
    for (int bytes : new int[] {0, 1, 3, 4}) {
      check.same(bytes + " bytes", Wire.begun().send(108, new Bytes().number(1, bytes)), Bytes.error('f'));
    }
  }

  /** Files: 1 d (directory), 2 p (plain), 3 d/e (directory), 4 d/e/q (plain); handle 1 at the root. */
  private static Wire planted() {
    Wire wire = Wire.attached(1);
    wire.make(1, "d", Wire.DIRECTORY + 7);
    wire.make(1, "p", 7);
    wire.walk(1, 2, "d");
    wire.make(2, "e", Wire.DIRECTORY + 7);
    wire.walk(2, 2, "e");
    wire.make(2, "q", 7);
    wire.close(2);
    return wire;
  }

  private static String walked(int... files) {
    Bytes body = new Bytes().number(files.length, 2);
    int[] versions = {2, 1, 0, 1, 0};
    for (int file : files) {
      body.qid(file == 0 || file % 2 == 1, versions[file], file);
    }
    return Bytes.reply(111, body);
  }

  private static void walkOfOpenHandles(Check check) {
    check.says("110 WALK: handle, new handle, k in 2 bytes, k strings. H, o: it is open,");
    for (int how = 0; how < 3; how++) {
      Wire wire = planted();
      wire.walk(1, 2, "p");
      wire.open(2, how);
      check.same("open with " + how, wire.walk(2, 3), Bytes.error('o'));
      check.same("itself", wire.walk(2, 2, ".."), Bytes.error('o'));
      check.same("handles()", wire.yard.handles(), 2);
      wire.close(2);
      wire.walk(1, 2, "p");
      check.same("a new one with its number", wire.walk(2, 3), walked());
    }
    Wire wire = planted();
    wire.create(1, "new", 0, 1);
    check.same("open by a create", wire.walk(1, 2), Bytes.error('o'));
  }

  private static void newHandles(Check check) {
    check.says("h: the new one is another number, and is NONE or there is one;");
    Wire wire = planted();
    wire.walk(1, 2, "d");
    check.same("NONE", wire.walk(1, Wire.NONE), Bytes.error('h'));
    check.same("one that is", wire.walk(1, 2), Bytes.error('h'));
    check.same("it stands where it stood", wire.walk(2, 3, "e"), walked(3));
    check.same("itself", wire.walk(2, 2, "e"), walked(3));
    check.says("l: it is another number, and there are 8; G.");
    for (int i = 4; i <= 8; i++) {
      check.same("handle " + i, wire.walk(1, i), walked());
    }
    check.same("handles()", wire.yard.handles(), 8);
    check.same("a ninth", wire.walk(1, 9), Bytes.error('l'));
    check.same("itself", wire.walk(1, 1, "p"), walked(2));
    check.same("handles()", wire.yard.handles(), 8);
    wire.close(8);
    wire.unmake(1, "..", "p");
    check.same("gone, to another", wire.walk(1, 8), Bytes.error('g'));
    check.same("gone, to itself", wire.walk(1, 1), Bytes.error('g'));
    check.same("gone, up", wire.walk(1, 1, ".."), Bytes.error('g'));
  }

  private static void stepsUp(Check check) {
    check.says("From where the handle stands it goes on by each string: .. to the parent "
        + "(from a plain file, too);");
    Wire wire = planted();
    check.same("from the root", wire.walk(1, 2, "..", "..", ".."), walked(0, 0, 0));
    wire.walk(1, 3, "d", "e", "q");
    check.same("from a plain file", wire.walk(3, 4, "..", "..", ".."), walked(3, 1, 0));
    check.same("and down", wire.walk(3, 5, "..", "q", "..", ".."), walked(3, 4, 3, 1));
    check.same("it stands where it stood", wire.walk(3, 3, ".."), walked(3));
    check.same("and goes on from there", wire.walk(3, 3, ".."), walked(1));
    Wire strict = Wire.attached(1);
    strict.make(1, "s", Wire.DIRECTORY);
    strict.walk(1, 2, "s");
    check.same("from where nothing may be done", strict.walk(2, 2, "..").startsWith("111:0100"), true);
  }

  private static void stepsDown(Check check) {
    check.says("else d: it is no directory, m: it may not be gone through, "
        + "n: no child has this name; to that child.");
    for (String name : new String[] {"", ".", "...", "e", "p", "none", ".. ", "..\0", "d", "abcdefgh"}) {
      Wire wire = planted();
      wire.walk(1, 2, "p");
      check.same("[" + name + "] from a plain file", wire.walk(2, 3, name), Bytes.error('d'));
    }
    for (String name : new String[] {"", ".", "...", "e", "D", "dd", "d\0", "d\0\0\0", "\0", "none", "d....",
        "dddd", "/d", "d/e", "\u00e4"}) {
      check.same("[" + name + "]", planted().walk(1, 3, name), Bytes.error('n'));
    }
    check.same("d", planted().walk(1, 3, "d"), walked(1));
    for (int rights = 0; rights < 8; rights++) {
      Wire wire = Wire.attached(1);
      wire.make(1, "a", Wire.DIRECTORY + rights);
      wire.walk(1, 2, "a");
      wire.walk(2, 3);
      String made = wire.create(3, "b", 0, 0);
      boolean there = made.startsWith("115");
      boolean through = rights % 2 == 1;
      String due = !through ? "error m" : there ? "111:0100" : "error n";
      String got = wire.walk(2, 4, "b");
      check.same("rights " + rights, got.startsWith("111") ? got.substring(0, 8) : got, due);
    }
  }

  private static void firstError(Check check) {
    check.says("When the first one has an error, that is the reply;");
    Wire wire = planted();
    wire.make(1, "s", Wire.DIRECTORY + 6);
    check.same("n", wire.walk(1, 2, "none", "d", "e"), Bytes.error('n'));
    wire.walk(1, 2, "p");
    check.same("d", wire.walk(2, 3, "d", ".."), Bytes.error('d'));
    wire.walk(1, 3, "s");
    check.same("m", wire.walk(3, 4, "none", ".."), Bytes.error('m'));
    check.same("handles()", wire.yard.handles(), 3);
  }

  private static void laterErrors(Check check) {
    check.says("else it ends where an error is met. Reply: how many strings were gone, in 2, "
        + "and the qids of the files come to.");
    Wire wire = planted();
    check.same("n behind one", wire.walk(1, 2, "d", "none", "e"), walked(1));
    check.same("n behind three", wire.walk(1, 2, "d", "e", "..", "none"), walked(1, 3, 1));
    check.same("d behind one", wire.walk(1, 2, "p", "none", ".."), walked(2));
    check.same("d behind three", wire.walk(1, 2, "d", "e", "q", "q"), walked(1, 3, 4));
    check.same("all four", wire.walk(1, 2, "d", "e", "q", ".."), walked(1, 3, 4, 3));
    check.same("none", wire.walk(1, 3), walked());
    Wire strict = Wire.attached(1);
    strict.make(1, "s", Wire.DIRECTORY + 6);
    Bytes one = new Bytes().number(1, 2).qid(true, 0, 1);
    check.same("m behind one", strict.walk(1, 2, "s", "none", ".."), Bytes.reply(111, one));
    check.same("handles()", strict.yard.handles(), 1);
  }

  private static void endOfTheWay(Check check) {
    check.says("If all were gone, the new handle (a number that is the same is it itself) "
        + "stands there, not open.");
    Wire wire = planted();
    wire.walk(1, 2, "d", "e");
    check.same("another one", wire.stat(2), Bytes.reply(125, new Bytes().stat(true, 1, 3, 7, 0, "e")));
    check.same("not open", wire.read(2, 0, 1), Bytes.error('o'));
    check.same("the first one stands where it stood", wire.walk(1, 3, "p"), walked(2));
    check.same("part of the way", wire.walk(2, 2, "q", "none"), walked(4));
    check.same("it stands where it stood", wire.walk(2, 4, "q"), walked(4));
    check.same("part of the way", wire.walk(1, 5, "d", "none"), walked(1));
    check.same("no new one", wire.stat(5), Bytes.error('h'));
    check.same("itself", wire.walk(2, 2, "q"), walked(4));
    check.same("it has moved", wire.stat(2), Bytes.reply(125, new Bytes().stat(false, 0, 4, 7, 0, "q")));
    check.same("handles()", wire.yard.handles(), 4);
    check.same("by no string", wire.walk(2, 6), walked());
    check.same("the same file", wire.stat(6), wire.stat(2));
    int[] opened = {2, 3, 4, 6};
    check.same("none is open", Arrays.stream(opened).allMatch(i -> wire.open(i, 0).startsWith("113")), true);
  }
}
