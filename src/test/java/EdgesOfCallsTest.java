/** The edges of promises 1 to 10, by the words of the document. */
public final class EdgesOfCallsTest {
  private static final String NOT_THERE = "throws.IndexOutOfBoundsException";
  private static final int[] FAR = {-1, 1000, 1 << 16, Integer.MAX_VALUE, Integer.MIN_VALUE};

  public static void main(String[] args) {
    Check check = new Check();
    fresh(check);
    feedBytes(check);
    feedCounts(check);
    feedTooMuch(check);
    feedAfterServing(check);
    serve(check);
    serveFullOut(check);
    greatestOut(check);
    serveNothing(check);
    size(check);
    out(check);
    drop(check);
    handles(check);
    about(check);
    aboutNothing(check);
    data(check);
    files(check);
    check.end();
  }

  private static String fed(MountYard yard, long w, int n) {
    return Check.answer(() -> {
      yard.feed(w, n);
      return yard.size(false);
    });
  }

  private static void fresh(Check check) {
    check.says("Only the root; IN, OUT and the text are empty, and the talk is not begun.");
    Wire wire = new Wire();
    check.same("files()", wire.yard.files(), 1);
    check.same("handles()", wire.yard.handles(), 0);
    check.same("IN", wire.yard.size(false), 0);
    check.same("OUT", wire.yard.size(true), 0);
    check.same("look(0)", wire.yard.look(0), 0);
    check.same("the text has room for 60", wire.type("/".repeat(60)), true);
    check.same("IN has room for 320", fed(wire.yard, 0, 8), "8");
    wire.yard.serve();
    check.same("attach", wire.attach(1), Bytes.error('v'));
    check.same("attach in another one", new Wire().attach(1), Bytes.error('v'));
  }

  private static void feedBytes(Check check) {
    check.says("n bytes are put behind IN, the lowest one of w first.");
    for (int cut = 1; cut <= 8; cut++) {
      Wire wire = Wire.begun();
      byte[] frame = Bytes.frame(108, 0xfe81, new byte[] {0x7f, -1});
      int fed = 0;
      while (fed < frame.length) {
        int n = Math.min(cut, frame.length - fed);
        // What is above the n bytes doesn't count.
        long above = n == 8 ? 0 : -1L << 8 * n;
        wire.yard.feed(Wire.word(frame, fed, n) | above, n);
        fed += n;
        check.same("size(false)", wire.yard.size(false), fed);
      }
      check.call("serve() of words of " + cut, wire.yard::serve, 109);
      check.same("OUT", Bytes.hex(wire.outBytes()), "07000000" + "6d" + "81fe");
    }
  }

  private static void feedCounts(Check check) {
    check.says("IllegalArgumentException when n is not 1 .. 8;");
    MountYard yard = new MountYard();
    for (int n : new int[] {0, -1, -8, 9, 10, 256 + 1, 1 << 30, Integer.MAX_VALUE, Integer.MIN_VALUE}) {
      check.same("n " + n, fed(yard, 1, n), "throws.IllegalArgumentException");
      check.same("size(false)", yard.size(false), 0);
    }
    for (int n = 1; n <= 8; n++) {
      check.same("n " + n, fed(new MountYard(), 1, n), "" + n);
    }
  }

  private static MountYard withIn(int bytes) {
    MountYard yard = new MountYard();
    for (int i = 0; i < bytes; i += 8) {
      yard.feed(7, Math.min(8, bytes - i));
    }
    return yard;
  }

  private static void feedTooMuch(Check check) {
    check.says("UnsupportedOperationException when IN would have more than 320.");
    for (int there = 311; there <= 320; there++) {
      for (int n = 1; n <= 8; n++) {
        MountYard yard = withIn(there);
        String due = there + n > 320 ? "throws.UnsupportedOperationException" : "" + (there + n);
        check.same(n + " behind " + there, fed(yard, 0, n), due);
        check.same("size(false)", yard.size(false), there + n > 320 ? there : there + n);
      }
    }
    for (int n : new int[] {0, 9, -1, Integer.MAX_VALUE}) {
      check.same(n + " behind 320", fed(withIn(320), 0, n), "throws.IllegalArgumentException");
    }
  }

  private static void feedAfterServing(Check check) {
    Wire wire = new Wire();
    wire.feed(Bytes.frame(99, 1, new byte[153]));
    wire.feed(Bytes.frame(99, 2, new byte[153]));
    check.same("320", wire.yard.size(false), 320);
    check.call("serve()", wire.yard::serve, 107);
    check.same("160 are left", wire.yard.size(false), 160);
    wire.feed(Bytes.frame(99, 3, new byte[153]));
    check.same("320 again", fed(wire.yard, 0, 1), "throws.UnsupportedOperationException");
    check.call("the second", wire.yard::serve, 107);
    check.call("the third", wire.yard::serve, 107);
    check.same("the tags", "" + wire.yard.out(5) + wire.yard.out(15) + wire.yard.out(25), "123");
  }

  private static void serve(Check check) {
    check.says("Takes one frame and replies: the type of the reply; 0 when the talk breaks.");
    Wire wire = new Wire();
    wire.feed(Bytes.frame(108, 1, new byte[2]));
    wire.feed(Bytes.frame(100, 65535, new Bytes().number(64, 4).string("9P2000")));
    wire.feed(Bytes.frame(108, 2, new byte[2]));
    wire.feed((byte) 65, (byte) 0, (byte) 0, (byte) 0, (byte) 108);
    check.call("an error", wire.yard::serve, 107);
    check.same("one frame", wire.yard.size(false), 19 + 9 + 5);
    check.call("begin", wire.yard::serve, 101);
    check.call("flush", wire.yard::serve, 109);
    check.same("three replies", wire.yard.size(true), 10 + 19 + 7);
    check.call("a break", wire.yard::serve, 0);
    check.same("no reply", wire.yard.size(true), 10 + 19 + 7);
    check.same("IN", wire.yard.size(false), 0);
  }

  /** An object with a talk, whose OUT has so many bytes, 240 to 246. */
  private static Wire withOut(int bytes) {
    Wire wire = Wire.begun();
    wire.attach(1);
    for (int i = 0; i < 24; i++) {
      wire.feed(Bytes.frame(99, 1, new byte[0]));
      wire.yard.serve();
    }
    wire.feed(Bytes.frame(108, 1, new byte[2]));
    wire.yard.serve();
    wire.yard.drop(247 - bytes);
    return wire;
  }

  private static void serveFullOut(Check check) {
    check.says("UnsupportedOperationException when OUT has more than 240 bytes;");
    String full = "throws.UnsupportedOperationException";
    for (int bytes = 240; bytes <= 246; bytes++) {
      Wire wire = withOut(bytes);
      check.same("size(true)", wire.yard.size(true), bytes);
      check.call("nothing in IN, " + bytes, wire.yard::serve,
          bytes > 240 ? full : "throws.NoSuchElementException");
      wire.feed(Bytes.frame(108, 1, new byte[2]));
      check.call("a frame, " + bytes, wire.yard::serve, bytes > 240 ? full : 109);
      check.same("size(true)", wire.yard.size(true), bytes > 240 ? bytes : 247);
    }
    Wire wire = withOut(241);
    wire.feed(new byte[4]);
    check.call("a break", wire.yard::serve, full);
    check.same("handles()", wire.yard.handles(), 1);
    wire.yard.drop(1);
    check.call("a break", wire.yard::serve, 0);
    check.same("OUT", wire.yard.size(true), 240);
  }

  /** The longest reply there is behind 240 bytes: five stats, the root's own with them. */
  private static void greatestOut(Check check) {
    Wire wire = new Wire();
    wire.begin(160, "9P2000");
    wire.attach(1);
    for (String name : new String[] {"a", "b", "c", "d", "e"}) {
      wire.make(1, name, 7);
    }
    wire.open(1, 0);
    String alone = wire.read(1, 0, 4294967295L);
    for (int i = 0; i < 24; i++) {
      wire.feed(Bytes.frame(99, 1, new byte[0]));
      wire.yard.serve();
    }
    wire.feed(Bytes.frame(116, 9, new Bytes().number(1, 4).number(0, 8).number(4294967295L, 4)));
    check.call("serve()", wire.yard::serve, 117);
    String out = Bytes.hex(wire.outBytes());
    check.same("behind 240", "117:" + out.substring(2 * 247), alone);
    check.same("the frame's head", out.substring(2 * 240, 2 * 247), String.format("%02x000000750900",
        wire.yard.size(true) - 240));
    check.same("drop", wire.yard.drop(240), true);
    check.same("what is left", "117:" + Bytes.hex(wire.outBytes()).substring(14), alone);
  }

  private static void serveNothing(Check check) {
    check.says("NoSuchElementException when IN has not four bytes, or its first frame is not all there.");
    for (int size : new int[] {7, 8, 9, 100, 160}) {
      Wire wire = new Wire();
      byte[] frame = Bytes.frame(99, 1, new byte[size - 7]);
      for (int i = 0; i < frame.length; i++) {
        check.call(i + " of " + size, wire.yard::serve, "throws.NoSuchElementException");
        wire.feed(frame[i]);
      }
      check.call("all of " + size, wire.yard::serve, 107);
      check.same("size(false)", wire.yard.size(false), 0);
    }
    for (int bytes = 1; bytes < 4; bytes++) {
      Wire wire = new Wire();
      wire.feed(new byte[bytes]);
      check.call("zeros, " + bytes, wire.yard::serve, "throws.NoSuchElementException");
      check.same("size(false)", wire.yard.size(false), bytes);
    }
  }

  private static void size(Check check) {
    check.says("How many bytes IN (out false) or OUT has.");
    Wire wire = new Wire();
    check.same("IN", wire.yard.size(false), 0);
    check.same("OUT", wire.yard.size(true), 0);
    wire.feed(Bytes.frame(99, 1, new byte[4]));
    wire.feed((byte) 1);
    check.same("IN", wire.yard.size(false), 12);
    check.same("OUT", wire.yard.size(true), 0);
    wire.yard.serve();
    check.same("IN", wire.yard.size(false), 1);
    check.same("OUT", wire.yard.size(true), 10);
    check.same("IN may have 320", withIn(320).size(false), 320);
    check.same("OUT may have more than 240", withOut(246).yard.size(true), 246);
  }

  private static void out(Check check) {
    check.says("Byte i of OUT. IndexOutOfBoundsException when there is none.");
    Wire wire = Wire.begun();
    check.call("out(0) of none", () -> wire.yard.out(0), NOT_THERE);
    wire.feed(Bytes.frame(108, 0x80ff, new byte[2]));
    check.call("out(0) before serving", () -> wire.yard.out(0), NOT_THERE);
    wire.yard.serve();
    check.same("the first", wire.yard.out(0), 7);
    check.same("never negative", wire.yard.out(5), 255);
    check.same("the last", wire.yard.out(6), 128);
    check.call("behind it", () -> wire.yard.out(7), NOT_THERE);
    for (int i : FAR) {
      check.call("out(" + i + ")", () -> wire.yard.out(i), NOT_THERE);
    }
    wire.yard.drop(2);
    check.same("the last", wire.yard.out(4), 128);
    check.call("behind it", () -> wire.yard.out(5), NOT_THERE);
    wire.yard.drop(5);
    check.call("out(0) of none", () -> wire.yard.out(0), NOT_THERE);
  }

  private static void drop(Check check) {
    check.says("Takes the first n bytes out of OUT. False when n is negative or it has not so many.");
    for (int n = -1; n <= 8; n++) {
      Wire wire = Wire.begun();
      wire.feed(Bytes.frame(108, 0x0201, new byte[2]));
      wire.yard.serve();
      boolean due = n >= 0 && n <= 7;
      check.same("drop(" + n + ")", wire.yard.drop(n), due);
      check.same("OUT", Bytes.hex(wire.outBytes()), "070000006d0102".substring(due ? 2 * n : 0));
    }
    MountYard fresh = new MountYard();
    check.same("drop(0) of none", fresh.drop(0), true);
    check.same("drop(1) of none", fresh.drop(1), false);
    for (int n : FAR) {
      check.same("drop(" + n + ")", withOut(240).yard.drop(n), false);
    }
  }

  private static void handles(Check check) {
    check.says("How many handles there are.");
    Wire wire = Wire.begun();
    check.same("none", wire.yard.handles(), 0);
    wire.attach(7);
    check.same("attach", wire.yard.handles(), 1);
    wire.attach(7);
    check.same("an error", wire.yard.handles(), 1);
    wire.walk(7, 8);
    check.same("walk", wire.yard.handles(), 2);
    wire.walk(7, 7);
    check.same("walk to itself", wire.yard.handles(), 2);
    wire.walk(7, 9, "none");
    check.same("a wrong way", wire.yard.handles(), 2);
    wire.create(8, "a", 7, 0);
    check.same("create", wire.yard.handles(), 2);
    wire.remove(8);
    check.same("remove", wire.yard.handles(), 1);
    wire.close(7);
    check.same("close", wire.yard.handles(), 0);
  }

  private static void about(Check check) {
    check.says("Of a file (one that is gone as it was, here and below): part 0 its parent, 1 its version, "
        + "2 the length of its data, 3 its mode's lowest three bits and 8 for a directory, "
        + "4 whether it is gone (1 or 0).");
    Wire wire = Wire.attached(1);
    wire.make(1, "d", Wire.DIRECTORY + 3);
    wire.walk(1, 2, "d");
    wire.create(2, "a", 6, 1);
    wire.write(2, 0, "abcdefghijklmnopqrstuvwx");
    wire.write(2, 0, "");
    int[][] due = {{0, 1, 0, 15, 0}, {0, 1, 0, 11, 0}, {1, 2, 24, 6, 0}};
    for (int file = 0; file < 3; file++) {
      for (int part = 0; part < 5; part++) {
        check.same(part + " of " + file, wire.yard.about(file, part), due[file][part]);
      }
    }
    wire.remove(2);
    wire.unmake(1, "d");
    int[][] then = {{0, 2, 0, 15, 0}, {0, 2, 0, 11, 1}, {1, 2, 24, 6, 1}};
    for (int file = 0; file < 3; file++) {
      for (int part = 0; part < 5; part++) {
        check.same(part + " of " + file + " then", wire.yard.about(file, part), then[file][part]);
      }
    }
  }

  private static void aboutNothing(Check check) {
    check.says("IndexOutOfBoundsException when there is no such file (or part).");
    MountYard fresh = new MountYard();
    for (int part = 0; part < 5; part++) {
      int p = part;
      check.call("file 1", () -> fresh.about(1, p), NOT_THERE);
      check.call("file 39", () -> fresh.about(39, p), NOT_THERE);
      for (int file : FAR) {
        check.call("file " + file, () -> fresh.about(file, p), NOT_THERE);
      }
    }
    for (int part : new int[] {-1, 5, 6, Integer.MAX_VALUE, Integer.MIN_VALUE}) {
      check.call("part " + part, () -> fresh.about(0, part), NOT_THERE);
      check.call("part " + part + " of no file", () -> fresh.about(1, part), NOT_THERE);
    }
    Wire full = Wire.withFiles(40);
    check.same("file 39", full.yard.about(39, 3), 7);
    check.call("file 40", () -> full.yard.about(40, 3), NOT_THERE);
  }

  private static void data(Check check) {
    check.says("Byte i of a file's data. IndexOutOfBoundsException when there is no such file or byte.");
    Wire wire = Wire.attached(1);
    wire.create(1, "a", 7, 1);
    check.call("no data", () -> wire.yard.data(1, 0), NOT_THERE);
    wire.write(1, 20, "\u0080a\u00ff\u007f");
    int[] due = {128, 'a', 255, 127};
    for (int i = 0; i < 4; i++) {
      check.same("byte " + (20 + i), wire.yard.data(1, 20 + i), due[i]);
    }
    check.same("byte 0", wire.yard.data(1, 0), 0);
    check.call("byte 24", () -> wire.yard.data(1, 24), NOT_THERE);
    for (int i : FAR) {
      check.call("byte " + i, () -> wire.yard.data(1, i), NOT_THERE);
      check.call("of file " + i, () -> wire.yard.data(i, 0), NOT_THERE);
    }
    check.call("of the root", () -> wire.yard.data(0, 0), NOT_THERE);
    check.call("of file 2", () -> wire.yard.data(2, 0), NOT_THERE);
    wire.remove(1);
    check.same("of a file that is gone", wire.yard.data(1, 22), 255);
    check.call("of a file that is gone", () -> wire.yard.data(1, 24), NOT_THERE);
  }

  private static void files(Check check) {
    check.says("How many files were made (with the root).");
    Wire wire = Wire.attached(1);
    check.same("the root", wire.yard.files(), 1);
    wire.make(1, "a", 7);
    check.same("one more", wire.yard.files(), 2);
    wire.unmake(1, "a");
    check.same("one that is gone counts", wire.yard.files(), 2);
    wire.create(1, "A", 7, 0);
    check.same("one that was not made does not", wire.yard.files(), 2);
    check.same("all", Wire.withFiles(40).yard.files(), 40);
  }
}
