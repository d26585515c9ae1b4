/** Promise 3: serve takes one frame and replies, or breaks the talk. */
public final class Promise03ServeTest {
  public static void main(String[] args) {
    Check check = new Check();
    notAllThere(check);
    breaks(check);
    breakForgets(check);
    limitOfFrames(check);
    fullOut(check);
    oneFrameAtATime(check);
    unknownTypes(check);
    check.end();
  }

  private static void notAllThere(Check check) {
    Wire wire = new Wire();
    byte[] frame = Bytes.frame(108, 5, new byte[2]);
    for (int i = 0; i < frame.length; i++) {
      check.call("serve() of " + i, wire.yard::serve, "throws.NoSuchElementException");
      check.same("size(false)", wire.yard.size(false), i);
      wire.feed(frame[i]);
    }
    check.call("serve()", wire.yard::serve, 107);
    check.call("serve()", wire.yard::serve, "throws.NoSuchElementException");
  }

  private static void breaks(Check check) {
    long[] sizes = {0, 1, 6, 161, 200, 256, 0x07000000L, 0x80000007L, 0xffffffffL};
    for (long size : sizes) {
      Wire wire = new Wire();
      wire.feed(new Bytes().number(size, 4).array());
      wire.feed(Bytes.frame(108, 5, new byte[2]));
      check.call("serve() with size " + size, wire.yard::serve, 0);
      check.same("size(false)", wire.yard.size(false), 0);
      check.same("size(true)", wire.yard.size(true), 0);
    }
    long[] good = {7, 8, 64, 159, 160};
    for (long size : good) {
      Wire wire = new Wire();
      wire.feed(new Bytes().number(size, 4).array());
      check.call("serve() with size " + size, wire.yard::serve, "throws.NoSuchElementException");
      wire.feed(new byte[(int) size - 4]);
      check.call("serve() with size " + size, wire.yard::serve, 107);
    }
  }

  private static void breakForgets(Check check) {
    Wire wire = new Wire();
    wire.begin(64, "9P2000");
    wire.attach(1);
    wire.make(1, "a", 7);
    wire.text("a");
    wire.feed(Bytes.frame(108, 1, new byte[2]));
    wire.yard.serve();
    wire.feed(new Bytes().number(65, 4).array());
    check.same("handles()", wire.yard.handles(), 1);
    check.call("serve()", wire.yard::serve, 0);
    check.same("handles()", wire.yard.handles(), 0);
    check.same("OUT stays", wire.yard.size(true), 7);
    check.same("the files stay", wire.yard.files(), 2);
    check.same("the text stays", wire.yard.look(0), 1);
    check.same("not begun", wire.attach(1), Bytes.error('v'));
    check.same("M is 160 again", wire.send(108, new Bytes().raw(new byte[153])), Bytes.error('f'));
  }

  private static void limitOfFrames(Check check) {
    Wire wire = new Wire();
    wire.begin(64, "9P2000");
    check.same("64 bytes", wire.send(108, new Bytes().raw(new byte[57])), Bytes.error('f'));
    wire.feed(new Bytes().number(65, 4).array());
    check.call("65 bytes", wire.yard::serve, 0);
  }

  private static void fullOut(Check check) {
    Wire wire = Wire.begun();
    byte[] flush = Bytes.frame(108, 1, new byte[2]);
    byte[] wrong = Bytes.frame(108, 1, new byte[1]);
    for (int i = 0; i < 24; i++) {
      wire.feed(wrong);
      wire.yard.serve();
    }
    check.same("size(true)", wire.yard.size(true), 240);
    wire.feed(flush);
    wire.feed(flush);
    check.call("serve() with 240", wire.yard::serve, 109);
    check.same("size(true)", wire.yard.size(true), 247);
    check.call("serve() with 247", wire.yard::serve, "throws.UnsupportedOperationException");
    check.same("size(false)", wire.yard.size(false), 9);
    wire.yard.drop(6);
    check.call("serve() with 241", wire.yard::serve, "throws.UnsupportedOperationException");
    wire.yard.drop(1);
    check.call("serve() with 240", wire.yard::serve, 109);
    check.call("nothing in IN", wire.yard::serve, "throws.UnsupportedOperationException");
    wire.feed(new byte[4]);
    check.call("a break", wire.yard::serve, "throws.UnsupportedOperationException");
    check.same("size(false)", wire.yard.size(false), 4);
  }

  private static void oneFrameAtATime(Check check) {
    Wire wire = Wire.begun();
    wire.feed(Bytes.frame(108, 1, new byte[2]));
    wire.feed(Bytes.frame(120, 2, new byte[4]));
    wire.feed(Bytes.frame(108, 65535, new byte[2]));
    check.call("first", wire.yard::serve, 109);
    check.same("size(false)", wire.yard.size(false), 20);
    check.call("second", wire.yard::serve, 107);
    check.call("third", wire.yard::serve, 109);
    check.same("OUT", Bytes.hex(wire.outBytes()),
        "070000006d0100" + "0a0000006b0200010068" + "070000006dffff");
  }

  private static void unknownTypes(Check check) {
    String known = " 100 104 108 110 112 114 116 118 120 122 124 ";
    Wire wire = new Wire();
    for (int type = 0; type < 256; type++) {
      if (!known.contains(" " + type + " ")) {
        check.same("type " + type, wire.send(type, new Bytes().number(1, 4)), Bytes.error('f'));
      }
    }
    // The wrong form is told before it is told that the talk is not begun.
    for (int type = 104; type <= 124; type += 2) {
      if (known.contains(" " + type + " ")) {
        check.same("form " + type, wire.send(type, new Bytes().number(0, 1)), Bytes.error('f'));
      }
    }
  }
}
