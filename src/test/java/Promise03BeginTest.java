/** Promise 3, the replies to 100, 104 and 108. */
public final class Promise03BeginTest {
  public static void main(String[] args) {
    Check check = new Check();
    begin(check);
    formOfBegin(check);
    beginForgetsHandles(check);
    attach(check);
    attachLimits(check);
    flush(check);
    notBegun(check);
    check.end();
  }

  private static String begun(int most, String dialect) {
    return Bytes.reply(101, new Bytes().number(most, 4).string(dialect));
  }

  private static void begin(Check check) {
    Wire wire = new Wire();
    check.same("63", wire.begin(63, "9P2000"), Bytes.error('l'));
    check.same("0", wire.begin(0, "9P2000"), Bytes.error('l'));
    check.same("still not begun", wire.attach(1), Bytes.error('v'));
    check.same("64", wire.begin(64, "9P2000"), begun(64, "9P2000"));
    check.same("attach", wire.attach(1).startsWith("105"), true);
    check.same("160", wire.begin(160, "9P2000.L"), begun(160, "9P2000"));
    check.same("159", wire.begin(159, "9P2000"), begun(159, "9P2000"));
    check.same("161", wire.begin(161, "9P2000"), begun(160, "9P2000"));
    check.same("2^31", wire.begin(1L << 31, "9P2000u"), begun(160, "9P2000"));
    check.same("2^32 - 1", wire.begin(4294967295L, "9P2000"), begun(160, "9P2000"));
    String[] others = {"", "9P200", "9P", "9p2000", "x9P2000", "9P2001", "unknown", "9P2O00", "8P2000"};
    for (String other : others) {
      wire.begin(100, "9P2000");
      check.same("[" + other + "]", wire.begin(100, other), begun(100, "unknown"));
      check.same("attach", wire.attach(1), Bytes.error('v'));
    }
    wire.begin(80, "other");
    wire.feed(new Bytes().number(81, 4).array());
    check.call("M holds without a talk", wire.yard::serve, 0);
  }

  private static void formOfBegin(Check check) {
    Wire wire = new Wire();
    byte[] good = new Bytes().number(100, 4).string("9P2000").array();
    for (int tag : new int[] {0, 1, 65534, 255, 65280}) {
      check.same("tag " + tag, wire.send(100, tag, good), Bytes.error('f'));
    }
    check.same("more", wire.send(100, 65535, new Bytes().raw(good).raw("x").array()),
        Bytes.error('f'));
    for (int n = 0; n < good.length; n++) {
      byte[] part = java.util.Arrays.copyOf(good, n);
      check.same("the first " + n, wire.send(100, 65535, part), Bytes.error('f'));
    }
    check.same("form before l", wire.send(100, 1, new Bytes().number(1, 4).string("").array()),
        Bytes.error('f'));
    check.same("good", wire.send(100, 65535, good), begun(100, "9P2000"));
  }

  private static void beginForgetsHandles(Check check) {
    Wire wire = Wire.attached(1);
    wire.attach(2);
    wire.begin(10, "9P2000");
    check.same("after l", wire.yard.handles(), 2);
    check.same("still begun", wire.stat(1).startsWith("125"), true);
    wire.begin(100, "9P2000");
    check.same("after begin", wire.yard.handles(), 0);
    check.same("stat", wire.stat(1), Bytes.error('h'));
    wire.attach(1);
    wire.begin(100, "other");
    check.same("after another", wire.yard.handles(), 0);
  }

  private static Bytes attachBody(long handle, long other, String user, String name) {
    return new Bytes().number(handle, 4).number(other, 4).string(user).string(name);
  }

  private static void attach(Check check) {
    Wire wire = Wire.begun();
    String root = Bytes.reply(105, new Bytes().qid(true, 0, 0));
    check.same("attach", wire.send(104, attachBody(7, Wire.NONE, "me", "any")), root);
    check.same("handles()", wire.yard.handles(), 1);
    check.same("again", wire.attach(7), Bytes.error('h'));
    check.same("NONE", wire.attach(Wire.NONE), Bytes.error('h'));
    check.same("a before h", wire.send(104, attachBody(7, 7, "", "")), Bytes.error('a'));
    check.same("a", wire.send(104, attachBody(8, 0, "", "")), Bytes.error('a'));
    check.same("a", wire.send(104, attachBody(8, Wire.NONE - 1, "", "")), Bytes.error('a'));
    check.same("great number", wire.attach(Wire.NONE - 1), root);
    check.same("0", wire.attach(0), root);
    check.same("2^31", wire.attach(1L << 31), root);
    check.same("handles()", wire.yard.handles(), 4);
    wire.make(0, "a", 7);
    check.same("version", wire.attach(9), Bytes.reply(105, new Bytes().qid(true, 1, 0)));
    byte[] good = attachBody(30, Wire.NONE, "ab", "c").array();
    for (int n = 0; n < good.length; n++) {
      byte[] part = java.util.Arrays.copyOf(good, n);
      check.same("the first " + n, wire.send(104, 3, part), Bytes.error('f'));
    }
    check.same("more", wire.send(104, new Bytes().raw(good).raw("x")), Bytes.error('f'));
    check.same("handles()", wire.yard.handles(), 5);
  }

  private static void attachLimits(Check check) {
    Wire wire = Wire.begun();
    for (int i = 0; i < 8; i++) {
      check.same("attach " + i, wire.attach(i).startsWith("105"), true);
    }
    check.same("ninth", wire.attach(8), Bytes.error('l'));
    check.same("h before l", wire.attach(3), Bytes.error('h'));
    check.same("a before l", wire.send(104, attachBody(8, 1, "", "")), Bytes.error('a'));
    wire.close(3);
    check.same("after a close", wire.attach(8).startsWith("105"), true);
    check.same("handles()", wire.yard.handles(), 8);
  }

  private static void flush(Check check) {
    Wire wire = Wire.begun();
    check.same("flush", wire.send(108, new Bytes().number(77, 2)), "109:");
    check.same("short", wire.send(108, new Bytes().number(77, 1)), Bytes.error('f'));
    check.same("long", wire.send(108, new Bytes().number(77, 3)), Bytes.error('f'));
    check.same("empty", wire.send(108, new Bytes()), Bytes.error('f'));
  }

  private static void notBegun(Check check) {
    Wire wire = new Wire();
    String due = Bytes.error('v');
    check.same("flush", wire.send(108, new Bytes().number(1, 2)), due);
    check.same("attach", wire.attach(1), due);
    check.same("walk", wire.walk(1, 2, "a"), due);
    check.same("open", wire.open(1, 0), due);
    check.same("create", wire.create(1, "a", 7, 0), due);
    check.same("read", wire.read(1, 0, 5), due);
    check.same("write", wire.write(1, 0, "abc"), due);
    check.same("close", wire.close(1), due);
    check.same("remove", wire.remove(1), due);
    check.same("stat", wire.stat(1), due);
  }
}
