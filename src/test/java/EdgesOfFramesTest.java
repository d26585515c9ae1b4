/** The edges of frames, of the talk's end and of handles, by the words of the document's terms. */
public final class EdgesOfFramesTest {
  private static final String NOT_THERE = "throws.NoSuchElementException";

  public static void main(String[] args) {
    Check check = new Check();
    sizeCountsAll(check);
    firstLimit(check);
    wrongSizes(check);
    inIsEmptied(check);
    noHandles(check);
    notBegun(check);
    limitAfterBreak(check);
    taken(check);
    replies(check);
    handleNumbers(check);
    eightHandles(check);
    openness(check);
    check.end();
  }

  private static byte[] flush(int tag) {
    return Bytes.frame(108, tag, new byte[2]);
  }

  private static byte[] size(long size) {
    return new Bytes().number(size, 4).array();
  }

  private static void sizeCountsAll(Check check) {
    check.says("A FRAME is its SIZE in 4 bytes (all its bytes, these too), its TYPE in 1, "
        + "its TAG in 2, and its BODY.");
    Wire wire = Wire.begun();
    wire.feed((byte) 9, (byte) 0, (byte) 0, (byte) 0, (byte) 108, (byte) 3, (byte) 4, (byte) 5, (byte) 6);
    check.call("flush", wire.yard::serve, 109);
    check.same("size(false)", wire.yard.size(false), 0);
    check.same("OUT", Bytes.hex(wire.outBytes()), "07000000" + "6d" + "0304");
    wire.yard.drop(7);
    wire.feed((byte) 7, (byte) 0, (byte) 0, (byte) 0, (byte) 108, (byte) 3, (byte) 4, (byte) 5, (byte) 6);
    check.call("without a body", wire.yard::serve, 107);
    check.same("size(false)", wire.yard.size(false), 2);
  }

  private static void firstLimit(Check check) {
    check.says("M is 160 at first.");
    Wire wire = new Wire();
    wire.feed(Bytes.frame(99, 1, new byte[153]));
    check.call("160", wire.yard::serve, 107);
    wire.feed(size(161));
    check.call("161", wire.yard::serve, 0);
  }

  private static void wrongSizes(Check check) {
    check.says("When the first four bytes of IN say a size that is not 7 .. M, the talk BREAKS:");
    for (int most : new int[] {64, 65, 100, 159, 160}) {
      for (long size : new long[] {7, 8, most - 1, most}) {
        Wire wire = withLimit(most);
        wire.feed(size(size));
        check.call(size + " of " + most, wire.yard::serve, NOT_THERE);
        check.same("size(false)", wire.yard.size(false), 4);
      }
      for (long size : new long[] {0, 1, 6, most + 1, 256 + 7, 7L << 8, 7L << 24, (1L << 31) + 7,
          4294967295L}) {
        Wire wire = withLimit(most);
        wire.feed(size(size));
        check.call(size + " of " + most, wire.yard::serve, 0);
        check.same("size(true)", wire.yard.size(true), 0);
      }
    }
    Wire wire = withLimit(64);
    wire.feed((byte) 0, (byte) 0, (byte) 0);
    check.call("not four bytes", wire.yard::serve, NOT_THERE);
    check.same("size(false)", wire.yard.size(false), 3);
    Wire second = withLimit(160);
    second.feed(Bytes.frame(100, 65535, new Bytes().number(64, 4).string("9P2000")));
    second.feed(Bytes.frame(99, 1, new byte[58]));
    check.call("a limit that came", second.yard::serve, 101);
    check.call("holds for what was there", second.yard::serve, 0);
  }

  private static Wire withLimit(int most) {
    Wire wire = new Wire();
    wire.begin(most, "9P2000");
    wire.attach(1);
    wire.attach(2);
    return wire;
  }

  private static void inIsEmptied(Check check) {
    check.says("IN is emptied,");
    Wire wire = withLimit(100);
    wire.feed(size(101));
    wire.feed(flush(1));
    wire.feed(flush(2));
    check.call("break", wire.yard::serve, 0);
    check.same("size(false)", wire.yard.size(false), 0);
    check.call("nothing is left", wire.yard::serve, NOT_THERE);
    check.same("OUT is as it was", wire.yard.size(true), 0);
    Wire first = withLimit(100);
    first.feed(flush(1));
    first.feed(size(6));
    first.feed(flush(2));
    check.call("a frame before", first.yard::serve, 109);
    check.call("break", first.yard::serve, 0);
    check.same("size(false)", first.yard.size(false), 0);
    check.same("OUT is as it was", Bytes.hex(first.outBytes()), "070000006d0100");
    check.call("nothing is left", first.yard::serve, NOT_THERE);
  }

  private static Wire broken() {
    Wire wire = withLimit(64);
    wire.make(1, "a", 7);
    wire.text("a /");
    wire.feed(size(3));
    wire.yard.serve();
    return wire;
  }

  private static void noHandles(Check check) {
    check.says("there are no handles, it is NOT BEGUN,");
    Wire wire = broken();
    check.same("handles()", wire.yard.handles(), 0);
    check.same("files()", wire.yard.files(), 2);
    check.same("the text", wire.yard.look(0), 1);
    wire.begin(64, "9P2000");
    check.same("no handle 1", wire.stat(1), Bytes.error('h'));
    check.same("no handle 2", wire.close(2), Bytes.error('h'));
    check.same("1 is free", wire.attach(1), Bytes.reply(105, new Bytes().qid(true, 1, 0)));
  }

  private static void notBegun(Check check) {
    Wire wire = broken();
    check.same("attach", wire.attach(1), Bytes.error('v'));
    check.same("flush", wire.send(108, new Bytes().number(1, 2)), Bytes.error('v'));
    check.same("handles()", wire.yard.handles(), 0);
    Wire twice = broken();
    twice.feed(size(3));
    check.call("a break without a talk", twice.yard::serve, 0);
  }

  private static void limitAfterBreak(Check check) {
    check.says("and M is 160.");
    Wire wire = broken();
    wire.feed(Bytes.frame(99, 1, new byte[153]));
    check.call("160", wire.yard::serve, 107);
    wire.feed(size(161));
    check.call("161", wire.yard::serve, 0);
  }

  private static void taken(Check check) {
    check.says("Else, when the frame is there, it is taken out of IN and its REPLY is put behind OUT:");
    Wire wire = Wire.begun();
    byte[] frame = flush(0x0201);
    for (int i = 0; i < 8; i++) {
      wire.feed(frame[i]);
      check.call("without its last bytes", wire.yard::serve, NOT_THERE);
      check.same("size(false)", wire.yard.size(false), i + 1);
    }
    wire.feed(frame[8]);
    wire.feed(flush(0x0403));
    wire.feed((byte) 9);
    check.call("there", wire.yard::serve, 109);
    check.same("size(false)", wire.yard.size(false), 10);
    check.call("the next", wire.yard::serve, 109);
    check.same("size(false)", wire.yard.size(false), 1);
    check.same("OUT", Bytes.hex(wire.outBytes()), "070000006d0102" + "070000006d0304");
    check.call("the rest", wire.yard::serve, NOT_THERE);
  }

  private static void replies(Check check) {
    check.says("a frame with the same tag and the type 1 greater, or ERROR: type 107, "
        + "its body a string of one letter.");
    for (int tag : new int[] {0, 1, 255, 256, 65534, 65535}) {
      Wire wire = Wire.begun();
      wire.feed(flush(tag));
      check.call("flush", wire.yard::serve, 109);
      check.same("OUT", Bytes.hex(wire.outBytes()), Bytes.hex(Bytes.frame(109, tag, new byte[0])));
      wire.yard.drop(7);
      wire.feed(Bytes.frame(120, tag, new byte[4]));
      check.call("close", wire.yard::serve, 107);
      check.same("OUT", Bytes.hex(wire.outBytes()),
          Bytes.hex(Bytes.frame(107, tag, new Bytes().string("h"))));
    }
    Wire wire = new Wire();
    check.same("100", wire.begin(160, "9P2000").substring(0, 4), "101:");
    check.same("104", wire.attach(1).substring(0, 4), "105:");
    check.same("108", wire.send(108, new Bytes().number(1, 2)).substring(0, 4), "109:");
    check.same("110", wire.walk(1, 2).substring(0, 4), "111:");
    check.same("112", wire.open(2, 0).substring(0, 4), "113:");
    wire.walk(1, 3);
    check.same("114", wire.create(3, "a", 7, 2).substring(0, 4), "115:");
    check.same("116", wire.read(3, 0, 0).substring(0, 4), "117:");
    check.same("118", wire.write(3, 0, "").substring(0, 4), "119:");
    check.same("120", wire.close(2).substring(0, 4), "121:");
    check.same("124", wire.stat(3).substring(0, 4), "125:");
    check.same("122", wire.remove(3).substring(0, 4), "123:");
  }

  private static void handleNumbers(Check check) {
    check.says("HANDLES (at most 8 at once) have numbers of 4 bytes, of which 4294967295 is NONE.");
    long[] numbers = {0, 1, 255, 256, 65536, 1L << 24, 1L << 31, 4294967294L};
    Wire wire = Wire.begun();
    for (long number : numbers) {
      check.same("no handle " + number, wire.close(number), Bytes.error('h'));
      wire.attach(number);
    }
    check.same("handles()", wire.yard.handles(), 8);
    int left = 8;
    for (long number : numbers) {
      check.same("close " + number, wire.close(number), "121:");
      left--;
      check.same("handles()", wire.yard.handles(), left);
    }
    check.same("NONE", wire.attach(4294967295L), Bytes.error('h'));
    check.same("handles()", wire.yard.handles(), 0);
  }

  private static void eightHandles(Check check) {
    Wire wire = Wire.begun();
    for (int i = 1; i <= 7; i++) {
      wire.attach(i);
    }
    check.same("the eighth by a walk", wire.walk(1, 8), "111:0000");
    check.same("a ninth by a walk", wire.walk(1, 9), Bytes.error('l'));
    check.same("a ninth by attach", wire.attach(9), Bytes.error('l'));
    check.same("handles()", wire.yard.handles(), 8);
    wire.remove(4);
    check.same("one less", wire.attach(9).startsWith("105"), true);
    check.same("handles()", wire.yard.handles(), 8);
  }

  private static void openness(Check check) {
    check.says("A handle stands at a file and is open for READING, WRITING or both, or not open.");
    String[] due = {"117 107", "107 119", "117 119"};
    for (int how = 0; how < 3; how++) {
      Wire wire = Wire.attached(1);
      wire.make(1, "a", 7);
      wire.walk(1, 2, "a");
      check.same("not open", tried(wire), "107 107");
      wire.open(2, how);
      check.same("open with " + how, tried(wire), due[how]);
      wire.walk(1, 3, "a");
      check.same("another one", wire.read(3, 0, 1), Bytes.error('o'));
    }
  }

  private static String tried(Wire wire) {
    String read = wire.read(2, 0, 1).startsWith("117") ? "117" : "107";
    return read + " " + (wire.write(2, 0, "").startsWith("119") ? "119" : "107");
  }
}
