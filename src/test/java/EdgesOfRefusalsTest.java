import java.util.concurrent.Callable;

/** What a call that throws, or answers false, leaves as it was, and which exception it is. */
public final class EdgesOfRefusalsTest {
  private static final String WRONG = "throws.IllegalArgumentException";
  private static final String NOTHING = "throws.NoSuchElementException";
  private static final String STATE = "throws.IllegalStateException";
  private static final String TOO_MUCH = "throws.UnsupportedOperationException";
  private static final String NOT_THERE = "throws.IndexOutOfBoundsException";

  /** A call that is refused. */
  private interface Refused {
    Object with(Wire wire) throws Exception;
  }

  public static void main(String[] args) {
    Check check = new Check();
    check.says("A call that throws, or answers false, changes nothing; "
        + "where several exceptions that it names fit, it is the first.");
    feed(check);
    serve(check);
    rowsAndFiles(check);
    type(check);
    lookAndMember(check);
    bind(check);
    unbind(check);
    fork(check);
    firstExceptions(check);
    check.end();
  }

  /**
   * Handle 1 at the root, 2 open at d for reading with part of it told, 3 open at p for writing;
   * the files of a grove in small; tables with keys; something in IN, in OUT and in the text.
   */
  private static void past(Wire wire) {
    wire.begin(100, "9P2000");
    wire.attach(1);
    for (String name : new String[] {"a", "b", "c", "d"}) {
      wire.make(1, name, Wire.DIRECTORY + 7);
    }
    wire.make(1, "p", 7);
    wire.make(1, "q", 7);
    wire.walk(1, 2, "d");
    wire.make(2, "x", 7);
    wire.make(2, "y", 7);
    wire.open(2, 0);
    wire.read(2, 0, 30);
    wire.walk(1, 3, "p");
    wire.open(3, 1);
    wire.write(3, 0, "abc");
    bindAll(wire);
    wire.feed(Bytes.frame(108, 7, new byte[2]));
    wire.yard.serve();
    wire.feed(Bytes.frame(124, 8, new byte[] {1, 0, 0, 0}));
    wire.feed(Bytes.frame(108, 9, new byte[2]));
    wire.text("d b");
  }

  private static void bindAll(Wire wire) {
    wire.text("a b");
    wire.yard.bind(0, 1);
    wire.text("c b");
    wire.yard.bind(0, 2);
    wire.text("q p");
    wire.yard.bind(0, 0);
    wire.yard.fork(0, 1, true);
    wire.yard.fork(0, 2, false);
    for (String key : new String[] {"a", "b", "c", "d"}) {
      wire.text("c " + key);
      wire.yard.bind(3, 0);
    }
  }

  private static void refused(Check check, String what, Refused call, Object due) {
    refused(check, what, EdgesOfRefusalsTest::past, call, due);
  }

  private static void refused(Check check, String what, Twins.Deed past, Refused call, Object due) {
    Twins.unchanged(check, what, past, wire -> {
      Callable<Object> once = () -> call.with(wire);
      check.call(what, once, due);
      check.call(what + " again", once, due);
    });
  }

  private static Object fed(Wire wire, long w, int n) {
    wire.yard.feed(w, n);
    return "fed";
  }

  private static void feed(Check check) {
    for (int n : new int[] {0, -1, 9, Integer.MIN_VALUE}) {
      refused(check, "feed of " + n, wire -> fed(wire, 0x0102030405060708L, n), WRONG);
    }
    Twins.Deed full = wire -> {
      past(wire);
      wire.feed(new byte[320 - wire.yard.size(false) - 3]);
    };
    for (int n = 4; n <= 8; n++) {
      int count = n;
      refused(check, "feed of " + n, full, wire -> fed(wire, 0x0102030405060708L, count), TOO_MUCH);
    }
  }

  private static void serve(Check check) {
    Twins.Deed fullOut = wire -> {
      past(wire);
      for (int i = 0; i < 40 && wire.yard.size(true) <= 240; i++) {
        wire.yard.feed(7, 7);
        wire.yard.serve();
      }
      wire.feed(new byte[4]);
    };
    refused(check, "serve() with a full OUT", fullOut, wire -> wire.yard.serve(), TOO_MUCH);
    Twins.Deed partInIn = wire -> {
      past(wire);
      wire.yard.serve();
      wire.yard.serve();
      wire.feed((byte) 9, (byte) 0, (byte) 0, (byte) 0, (byte) 108, (byte) 1);
    };
    refused(check, "serve() of a part", partInIn, wire -> wire.yard.serve(), NOTHING);
    Twins.Deed threeInIn = wire -> {
      past(wire);
      wire.yard.serve();
      wire.yard.serve();
      wire.feed(new byte[3]);
    };
    refused(check, "serve() of three bytes", threeInIn, wire -> wire.yard.serve(), NOTHING);
  }

  private static void rowsAndFiles(Check check) {
    refused(check, "out(7)", wire -> wire.yard.out(7), NOT_THERE);
    refused(check, "out(-1)", wire -> wire.yard.out(-1), NOT_THERE);
    refused(check, "drop(-1)", wire -> wire.yard.drop(-1), false);
    refused(check, "drop(8)", wire -> wire.yard.drop(8), false);
    refused(check, "about(9, 0)", wire -> wire.yard.about(9, 0), NOT_THERE);
    refused(check, "about(0, 5)", wire -> wire.yard.about(0, 5), NOT_THERE);
    refused(check, "data(5, 3)", wire -> wire.yard.data(5, 3), NOT_THERE);
    refused(check, "data(9, 0)", wire -> wire.yard.data(9, 0), NOT_THERE);
  }

  private static void type(Check check) {
    long letters = 0x6161616161616161L;
    for (int n : new int[] {0, -1, 9, Integer.MAX_VALUE}) {
      refused(check, "type of " + n, wire -> wire.yard.type(letters, n), false);
    }
    refused(check, "type of a wrong one", wire -> wire.yard.type(0x4161616161616161L, 8), false);
    refused(check, "type of a wrong one", wire -> wire.yard.type(0x6161616161616141L, 8), false);
    Twins.Deed almostFull = wire -> {
      past(wire);
      wire.text("a" + "/".repeat(54));
    };
    for (int n = 6; n <= 8; n++) {
      int count = n;
      refused(check, "type of " + n, almostFull, wire -> wire.yard.type(letters, count), false);
    }
  }

  private static Twins.Deed with(String text) {
    return wire -> {
      past(wire);
      wire.text(text);
    };
  }

  private static void lookAndMember(Check check) {
    refused(check, "look(4)", wire -> wire.yard.look(4), WRONG);
    refused(check, "look(0)", with("none"), wire -> wire.yard.look(0), NOTHING);
    refused(check, "member(-1, 0)", wire -> wire.yard.member(-1, 0), WRONG);
    refused(check, "member(0, 0)", with("none"), wire -> wire.yard.member(0, 0), NOTHING);
    refused(check, "member(0, 3)", with("b"), wire -> wire.yard.member(0, 3), NOT_THERE);
  }

  private static void bind(Check check) {
    refused(check, "bind(4, 0)", wire -> wire.yard.bind(4, 0), WRONG);
    refused(check, "bind(0, 3)", wire -> wire.yard.bind(0, 3), WRONG);
    for (int h = 0; h < 3; h++) {
      int how = h;
      refused(check, "bind, A not found", with("none b"), wire -> wire.yard.bind(0, how), NOTHING);
      refused(check, "bind, B not found", with("a none"), wire -> wire.yard.bind(0, how), NOTHING);
      refused(check, "bind, a directory and a file", with("a q"), wire -> wire.yard.bind(0, how), STATE);
      refused(check, "bind, a fifth key", with("a /"), wire -> wire.yard.bind(3, how), TOO_MUCH);
    }
    Twins.Deed four = wire -> {
      past(wire);
      wire.yard.bind(0, 2);
      wire.text("b d");
    };
    refused(check, "bind, five files", four, wire -> wire.yard.bind(0, 1), TOO_MUCH);
    refused(check, "bind, five files", four, wire -> wire.yard.bind(0, 2), TOO_MUCH);
    refused(check, "bind, six files", with("b b"), wire -> wire.yard.bind(0, 1), TOO_MUCH);
    refused(check, "bind, six files", with("b b"), wire -> wire.yard.bind(0, 2), TOO_MUCH);
  }

  private static void unbind(Check check) {
    refused(check, "unbind(4)", wire -> wire.yard.unbind(4), WRONG);
    refused(check, "unbind, not found", with("none"), wire -> wire.yard.unbind(0), NOTHING);
    refused(check, "unbind, no key", with("a"), wire -> wire.yard.unbind(0), NOTHING);
  }

  private static void fork(Check check) {
    for (boolean share : new boolean[] {true, false}) {
      refused(check, "fork(4, 0)", wire -> wire.yard.fork(4, 0, share), false);
      refused(check, "fork(0, 4)", wire -> wire.yard.fork(0, 4, share), false);
      refused(check, "fork(-1, 3)", wire -> wire.yard.fork(-1, 3, share), false);
      refused(check, "fork(3, -1)", wire -> wire.yard.fork(3, -1, share), false);
      refused(check, "fork(0, 0)", wire -> wire.yard.fork(0, 0, share), false);
    }
  }

  /** Two or more exceptions fit each of these calls. */
  private static void firstExceptions(Check check) {
    Wire full = new Wire();
    full.feed(new byte[320]);
    check.call("feed", () -> fed(full, 0, 9), WRONG);
    Grove grove = new Grove();
    for (String key : new String[] {"a", "b", "c", "e"}) {
      grove.bind(0, 0, "d " + key);
    }
    grove.wire.unmake(1, "d");
    check.same("look", grove.look(4, "none"), WRONG);
    check.same("look of an empty list", grove.look(4, "a"), WRONG);
    check.same("member", grove.member(4, 9, "none"), WRONG);
    check.same("member", grove.member(4, 9, "a"), WRONG);
    check.same("member", grove.member(0, 9, "none"), NOTHING);
    check.same("bind, all fit", grove.bind(4, 3, "none p"), WRONG);
    check.same("bind, how", grove.bind(0, 3, "none p"), WRONG);
    check.same("bind, kinds and how", grove.bind(0, 3, "p /"), WRONG);
    check.same("bind, keys and how", grove.bind(0, 3, "p q"), WRONG);
    check.same("bind, not found and kinds", grove.bind(0, 1, "none p"), NOTHING);
    check.same("bind, not found and keys", grove.bind(0, 0, "none /"), NOTHING);
    check.same("bind, an empty list and kinds", grove.bind(0, 1, "a p"), NOTHING);
    check.same("bind, an empty list and keys", grove.bind(0, 0, "a /"), NOTHING);
    check.same("bind, kinds and keys", grove.bind(0, 1, "p q"), STATE);
    check.same("bind, keys", grove.bind(0, 0, "p q"), TOO_MUCH);
    check.same("unbind", grove.unbind(4, "none"), WRONG);
    check.same("unbind", grove.unbind(4, "p"), WRONG);
  }
}
