import java.util.Arrays;

/** What is wrong with every type of message first of all, and which of two errors is told. */
public final class EdgesOfErrorsTest {
  private static final int[] TYPES = {100, 104, 108, 110, 112, 114, 116, 118, 120, 122, 124};

  public static void main(String[] args) {
    Check check = new Check();
    unknownTypes(check);
    bodies(check);
    tagOfBeginAndStepsOfWalk(check);
    notBegun(check);
    noSuchHandle(check);
    goneFile(check);
    orderOfBegin(check);
    orderOfAttach(check);
    orderOfWalk(check);
    orderOfSteps(check);
    orderOfOpen(check);
    orderOfCreate(check);
    orderOfCreateBehindTheDirectory(check);
    orderOfCreateWithAllFiles(check);
    orderOfTheRest(check);
    errorsChangeNothing(check);
    check.end();
  }

  /**
   * Handles 1 at the root, 2 at it and open; 3 at p (plain), 4 at p and open, 5 at s (a directory
   * that may be nothing), 6 at g (a directory that is gone), 7 at h (plain, gone). Files: 1 p, 2 s,
   * 3 g, 4 h.
   */
  private static Wire scene() {
    Wire wire = Wire.attached(1);
    wire.make(1, "p", 6);
    wire.make(1, "s", Wire.DIRECTORY);
    wire.make(1, "g", Wire.DIRECTORY + 7);
    wire.make(1, "h", 7);
    wire.walk(1, 2);
    wire.open(2, 0);
    wire.walk(1, 3, "p");
    wire.walk(1, 4, "p");
    wire.open(4, 2);
    wire.walk(1, 5, "s");
    wire.walk(1, 6, "g");
    wire.walk(1, 7, "h");
    wire.unmake(1, "g");
    wire.unmake(1, "h");
    return wire;
  }

  /** The body of a message of a type that is right but for its handle, if that is not there. */
  private static byte[] body(int type, long handle) {
    Bytes body = new Bytes().number(handle, 4);
    return switch (type) {
      case 100 -> new Bytes().number(160, 4).string("9P2000").array();
      case 104 -> body.number(Wire.NONE, 4).string("me").string("you").array();
      case 108 -> new Bytes().number(1, 2).array();
      case 110 -> body.number(9, 4).number(2, 2).string("..").string("..").array();
      case 112 -> body.number(0, 1).array();
      case 114 -> body.string("new").number(7, 4).number(0, 1).array();
      case 116 -> body.number(0, 8).number(5, 4).array();
      case 118 -> body.number(0, 8).number(3, 4).raw("abc").array();
      default -> body.array();
    };
  }

  private static int tag(int type) {
    return type == 100 ? 65535 : 77;
  }

  private static void unknownTypes(Check check) {
    check.says("REPLIES, by types, with their bodies; the errors in the order in which they are "
        + "looked for. First of all: f: the type is none of these,");
    for (int type = 0; type < 256; type++) {
      if (Arrays.binarySearch(TYPES, type) < 0) {
        for (int bytes : new int[] {0, 4}) {
          Wire wire = Wire.attached(1);
          byte[] body = Arrays.copyOf(new byte[] {1, 0, 0, 0}, bytes);
          check.same("type " + type, wire.send(type, 65535, body), Bytes.error('f'));
          check.same("handles()", wire.yard.handles(), 1);
        }
        check.same("before it is begun", new Wire().send(type, 1, new byte[0]), Bytes.error('f'));
      }
    }
  }

  private static void bodies(Check check) {
    check.says("or the body has not just the bytes that it must have");
    for (int type : TYPES) {
      byte[] good = body(type, type == 104 ? 8 : 1);
      for (int bytes = 0; bytes < good.length; bytes++) {
        byte[] part = Arrays.copyOf(good, bytes);
        check.same(type + " of " + bytes, Wire.attached(1).send(type, tag(type), part), Bytes.error('f'));
        check.same("before v", type == 100 || new Wire().send(type, 77, part).equals("error f"), true);
      }
      byte[] more = Arrays.copyOf(good, good.length + 1);
      check.same(type + " with more", Wire.attached(1).send(type, tag(type), more), Bytes.error('f'));
      check.same("before h", Wire.begun().send(type, tag(type), more), Bytes.error('f'));
    }
    overlongStrings(check);
  }

  /** A string may not say that it has more bytes than there are, nor fewer. */
  private static void overlongStrings(Check check) {
    for (int length : new int[] {0, 1, 3, 4, 200, 255, 256, 258, 32768, 65535}) {
      Bytes attach = new Bytes().number(8, 4).number(Wire.NONE, 4);
      Bytes second = new Bytes().raw(attach.array()).string("ab").number(length, 2).raw("cd");
      check.same("second string", Wire.begun().send(104, second), Bytes.error('f'));
      Bytes create = new Bytes().number(1, 4).number(length, 2).raw("ab").number(7, 4).number(0, 1);
      check.same("create", Wire.attached(1).send(114, create), Bytes.error('f'));
      Bytes begin = new Bytes().number(100, 4).number(length, 2).raw("9P");
      check.same("begin", new Wire().send(100, 65535, begin.array()), Bytes.error('f'));
      Bytes walk = new Bytes().number(1, 4).number(2, 4).number(1, 2).number(length, 2).raw("..");
      check.same("walk", Wire.attached(1).send(110, walk), Bytes.error('f'));
    }
    for (long count : new long[] {0, 2, 4, 256 + 3, 65536 + 3, (1L << 31) + 3, 4294967295L}) {
      Bytes write = new Bytes().number(4, 4).number(0, 8).number(count, 4).raw("abc");
      check.same("write of " + count, scene().send(118, write), Bytes.error('f'));
    }
  }

  private static void tagOfBeginAndStepsOfWalk(Check check) {
    check.says("(for 100: the tag is not 65535; for 110: k is above 4);");
    for (int tag : new int[] {0, 1, 255, 32767, 32768, 65280, 65534}) {
      check.same("tag " + tag, new Wire().send(100, tag, body(100, 0)), Bytes.error('f'));
    }
    check.same("65535", new Wire().send(100, 65535, body(100, 0)).startsWith("101"), true);
    check.same("another type with 65535", scene().send(124, 65535, body(124, 1)).startsWith("125"), true);
    for (int steps : new int[] {5, 6, 20}) {
      String[] names = new String[steps];
      Arrays.fill(names, "..");
      check.same(steps + " steps", Wire.attached(1).walk(1, 2, names), Bytes.error('f'));
    }
    for (int steps : new int[] {5, 256, 260, 32768, 65535}) {
      Bytes walk = new Bytes().number(1, 4).number(2, 4).number(steps, 2);
      check.same(steps + " told", Wire.attached(1).send(110, walk), Bytes.error('f'));
    }
    String four = Wire.attached(1).walk(1, 2, "..", "..", "..", "..");
    check.same("4 steps", four.startsWith("111:0400"), true);
  }

  private static void notBegun(Check check) {
    check.says("v: the talk is not begun (but for 100).");
    for (int type : TYPES) {
      String due = type == 100 ? "101" : "error v";
      check.same("" + type, new Wire().send(type, tag(type), body(type, 1)).split(":")[0], due);
      Wire other = Wire.attached(1);
      other.begin(160, "8P2000");
      check.same("another talk", other.send(type, tag(type), body(type, 1)).split(":")[0], due);
    }
    Wire wire = new Wire();
    check.same("v before a", wire.send(104, new Bytes().number(1, 4).number(1, 4).string("").string("")),
        Bytes.error('v'));
    check.same("v before h", wire.attach(Wire.NONE), Bytes.error('v'));
    check.same("v before m", wire.open(1, 3), Bytes.error('v'));
  }

  private static void noSuchHandle(Check check) {
    check.says("H: there is no such handle: h;");
    for (int type = 110; type <= 124; type += 2) {
      for (long handle : new long[] {0, 2, 257, 1L << 31, Wire.NONE}) {
        Wire wire = Wire.attached(1);
        check.same(type + " of " + handle, wire.send(type, 1, body(type, handle)), Bytes.error('h'));
        check.same("handles()", wire.yard.handles(), 1);
      }
    }
    for (int type = 110; type <= 124; type += 2) {
      Wire closed = Wire.attached(1);
      closed.close(1);
      check.same(type + " of one that was", closed.send(type, 1, body(type, 1)), Bytes.error('h'));
    }
    Wire wire = scene();
    check.same("h before m", wire.open(9, 3), Bytes.error('h'));
    check.same("h before n", wire.create(9, "", 7, 3), Bytes.error('h'));
    check.same("h before l", wire.write(9, 25, ""), Bytes.error('h'));
    wire.walk(1, 8);
    check.same("h before l", wire.walk(9, 10), Bytes.error('h'));
  }

  private static void goneFile(Check check) {
    check.says("G: the file at which it stands is gone: g.");
    for (int type : new int[] {110, 112, 114, 122, 124}) {
      check.same(type + " of a directory", scene().send(type, 1, body(type, 6)), Bytes.error('g'));
      check.same(type + " of a plain file", scene().send(type, 1, body(type, 7)), Bytes.error('g'));
    }
    Wire wire = scene();
    wire.unmake(1, "p");
    check.same("read", wire.read(4, 0, 1), Bytes.error('g'));
    check.same("write", wire.write(4, 0, "a"), Bytes.error('g'));
    check.same("close has no g", wire.close(4), "121:");
    check.same("close has no g", wire.close(6), "121:");
  }

  private static void orderOfBegin(Check check) {
    check.same("f before l", new Wire().send(100, 1, new Bytes().number(1, 4).string("").array()),
        Bytes.error('f'));
    check.same("l of a talk that is none", new Wire().begin(1, "none"), Bytes.error('l'));
  }

  private static void orderOfAttach(Check check) {
    Bytes otherAndTaken = new Bytes().number(1, 4).number(0, 4).string("").string("");
    Bytes otherAndNone = new Bytes().number(Wire.NONE, 4).number(0, 4).string("").string("");
    Bytes other = new Bytes().number(30, 4).number(0, 4).string("").string("");
    Wire wire = scene();
    check.same("a before h", wire.send(104, otherAndTaken), Bytes.error('a'));
    check.same("a before h", wire.send(104, otherAndNone), Bytes.error('a'));
    wire.walk(1, 8);
    check.same("a before l", wire.send(104, other), Bytes.error('a'));
    check.same("h before l", wire.attach(1), Bytes.error('h'));
    check.same("h before l", wire.attach(Wire.NONE), Bytes.error('h'));
    check.same("l", wire.attach(30), Bytes.error('l'));
  }

  private static void orderOfWalk(Check check) {
    Wire wire = scene();
    check.same("o before h", wire.walk(2, 1), Bytes.error('o'));
    check.same("o before h", wire.walk(2, Wire.NONE), Bytes.error('o'));
    check.same("o before n", wire.walk(2, 2, "none"), Bytes.error('o'));
    check.same("o before d", wire.walk(4, 8, "none"), Bytes.error('o'));
    check.same("h before g", wire.walk(6, 1), Bytes.error('h'));
    check.same("h before g", wire.walk(6, Wire.NONE), Bytes.error('h'));
    check.same("h before n", wire.walk(1, 2, "none"), Bytes.error('h'));
    check.same("g before n", wire.walk(6, 8, "none"), Bytes.error('g'));
    check.same("g before d", wire.walk(7, 8, "none"), Bytes.error('g'));
    check.same("g of itself", wire.walk(6, 6, ".."), Bytes.error('g'));
    wire.walk(1, 8);
    check.same("o before l", wire.walk(2, 30), Bytes.error('o'));
    check.same("h before l", wire.walk(1, 8), Bytes.error('h'));
    check.same("h before l", wire.walk(1, Wire.NONE), Bytes.error('h'));
    check.same("l before g", wire.walk(6, 30), Bytes.error('l'));
    check.same("l before n", wire.walk(1, 30, "none"), Bytes.error('l'));
    check.same("no l for itself", wire.walk(1, 1, "none"), Bytes.error('n'));
    wire.close(8);
    wire.unmake(1, "p");
    check.same("o before g", wire.walk(4, 4), Bytes.error('o'));
  }

  private static void orderOfSteps(Check check) {
    Wire wire = scene();
    check.same("d before m", wire.walk(3, 8, "none"), Bytes.error('d'));
    check.same("m before n", wire.walk(5, 8, "none"), Bytes.error('m'));
    check.same("n", wire.walk(1, 8, "none"), Bytes.error('n'));
  }

  private static void orderOfOpen(Check check) {
    Wire wire = scene();
    check.same("o before m", wire.open(2, 3), Bytes.error('o'));
    check.same("o before d", wire.open(2, 1), Bytes.error('o'));
    check.same("m before g", wire.open(6, 3), Bytes.error('m'));
    check.same("m before d", wire.open(5, 3), Bytes.error('m'));
    check.same("g before d", wire.open(6, 1), Bytes.error('g'));
    check.same("d before m", wire.open(5, 1), Bytes.error('d'));
    check.same("m", wire.open(5, 0), Bytes.error('m'));
    wire.unmake(1, "p");
    wire.unmake(1, "s");
    check.same("o before g", wire.open(4, 0), Bytes.error('o'));
    check.same("g before m", wire.open(5, 0), Bytes.error('g'));
  }

  private static void orderOfCreate(Check check) {
    Wire wire = scene();
    check.same("o before m", wire.create(2, "new", 7, 3), Bytes.error('o'));
    check.same("o before d", wire.create(4, "new", 7, 0), Bytes.error('o'));
    check.same("o before n", wire.create(2, "", 7, 0), Bytes.error('o'));
    check.same("o before x", wire.create(2, "p", 7, 0), Bytes.error('o'));
    check.same("m before g", wire.create(6, "new", 7, 3), Bytes.error('m'));
    check.same("m before d", wire.create(3, "new", 7, 3), Bytes.error('m'));
    check.same("m before n", wire.create(1, "", 7, 3), Bytes.error('m'));
    check.same("m before x", wire.create(1, "p", 7, 3), Bytes.error('m'));
    check.same("m before d", wire.create(1, "new", Wire.DIRECTORY, 3), Bytes.error('m'));
    check.same("g before d", wire.create(7, "new", 7, 0), Bytes.error('g'));
    check.same("g before n", wire.create(6, "", 7, 0), Bytes.error('g'));
    check.same("g before d", wire.create(6, "new", Wire.DIRECTORY, 1), Bytes.error('g'));
    wire.unmake(1, "p");
    wire.unmake(1, "s");
    check.same("o before g", wire.create(4, "new", 7, 0), Bytes.error('o'));
    check.same("g before m", wire.create(5, "new", 7, 0), Bytes.error('g'));
  }

  private static void orderOfCreateBehindTheDirectory(Check check) {
    Wire wire = scene();
    wire.make(1, "r", 5);
    wire.walk(1, 8, "r");
    check.same("d before m", wire.create(8, "new", 7, 0), Bytes.error('d'));
    check.same("d before n", wire.create(3, "", 7, 0), Bytes.error('d'));
    check.same("m before n", wire.create(5, "", 7, 0), Bytes.error('m'));
    check.same("m before d", wire.create(5, "new", Wire.DIRECTORY, 1), Bytes.error('m'));
    check.same("n before d", wire.create(1, "", Wire.DIRECTORY, 1), Bytes.error('n'));
    check.same("x before d", wire.create(1, "p", Wire.DIRECTORY, 1), Bytes.error('x'));
    check.same("d", wire.create(1, "new", Wire.DIRECTORY, 1), Bytes.error('d'));
  }

  private static void orderOfCreateWithAllFiles(Check check) {
    Wire wire = scene();
    wire.fillUp(40);
    check.same("files()", wire.yard.files(), 40);
    check.same("o before l", wire.create(2, "new", 7, 0), Bytes.error('o'));
    check.same("m before l", wire.create(1, "new", 7, 3), Bytes.error('m'));
    check.same("g before l", wire.create(6, "new", 7, 0), Bytes.error('g'));
    check.same("d before l", wire.create(3, "new", 7, 0), Bytes.error('d'));
    check.same("m before l", wire.create(5, "new", 7, 0), Bytes.error('m'));
    check.same("n before l", wire.create(1, "", 7, 0), Bytes.error('n'));
    check.same("x before l", wire.create(1, "p", 7, 0), Bytes.error('x'));
    check.same("d before l", wire.create(1, "new", Wire.DIRECTORY, 1), Bytes.error('d'));
    check.same("l", wire.create(1, "new", 7, 0), Bytes.error('l'));
  }

  private static void orderOfTheRest(Check check) {
    Wire wire = scene();
    check.same("read, o before f", wire.read(5, 1, 1), Bytes.error('o'));
    check.same("read, o before g", wire.read(6, 0, 1), Bytes.error('o'));
    check.same("write, o before g", wire.write(7, 0, "a"), Bytes.error('o'));
    check.same("write, o before l", wire.write(3, 25, "a"), Bytes.error('o'));
    wire.unmake(1, "p");
    check.same("write, g before l", wire.write(4, 25, "a"), Bytes.error('g'));
    wire.make(1, "d", Wire.DIRECTORY + 7);
    wire.walk(1, 8, "d");
    wire.open(8, 0);
    wire.close(7);
    wire.unmake(1, "d");
    check.same("read, g before f", wire.read(8, 1, 1), Bytes.error('g'));
    check.same("remove, m before b", wire.remove(1), Bytes.error('m'));
  }

  private static void errorsChangeNothing(Check check) {
    Twins.Deed past = wire -> {
      wire.begin(120, "9P2000");
      wire.attach(1);
      wire.make(1, "p", 2);
      wire.make(1, "d", Wire.DIRECTORY + 7);
      wire.walk(1, 2, "p");
      wire.walk(1, 3, "p");
      wire.open(3, 1);
      wire.write(3, 0, "abc");
      wire.walk(1, 4, "d");
      wire.walk(1, 5, "d");
      wire.open(5, 0);
    };
    Twins.unchanged(check, "begin", past, wire -> wire.begin(63, "9P2000"));
    Twins.unchanged(check, "begin with another tag", past, wire -> wire.send(100, 1, body(100, 1)));
    Twins.unchanged(check, "attach", past, wire -> wire.attach(1));
    Twins.unchanged(check, "walk", past, wire -> wire.walk(4, 4, "none", ".."));
    Twins.unchanged(check, "part of a walk", past, wire -> wire.walk(4, 4, "..", "none"));
    Twins.unchanged(check, "part of a walk", past, wire -> wire.walk(4, 6, "..", "none"));
    Twins.unchanged(check, "open", past, wire -> wire.open(2, 18));
    Twins.unchanged(check, "open of a directory", past, wire -> wire.open(4, 17));
    Twins.unchanged(check, "create", past, wire -> wire.create(4, "abcde", 7, 2));
    Twins.unchanged(check, "create of a directory", past, wire -> wire.create(4, "n", Wire.DIRECTORY, 2));
    Twins.unchanged(check, "create where one is", past, wire -> wire.create(1, "p", 7, 17));
    Twins.unchanged(check, "read", past, wire -> wire.read(5, 1, 100));
    Twins.unchanged(check, "read for writing", past, wire -> wire.read(3, 0, 100));
    Twins.unchanged(check, "write", past, wire -> wire.write(3, 22, "abc"));
    Twins.unchanged(check, "write, not open", past, wire -> wire.write(2, 0, "abc"));
    Twins.unchanged(check, "close", past, wire -> wire.close(9));
    Twins.unchanged(check, "remove", past, wire -> wire.remove(9));
    Twins.unchanged(check, "stat", past, wire -> wire.stat(9));
    Twins.unchanged(check, "stat", past, wire -> wire.stat(4));
  }
}
