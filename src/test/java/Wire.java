import java.util.Arrays;

/** Speaks with a MountYard in whole frames, and takes each reply out of OUT at once. */
final class Wire {
  static final long NONE = 4294967295L;
  static final long DIRECTORY = 1L << 31;

  final MountYard yard = new MountYard();
  private int nextTag = 1;

  /** An object whose talk is begun. */
  static Wire begun() {
    Wire wire = new Wire();
    wire.begin(120, "9P2000");
    return wire;
  }

  /** An object whose talk is begun, with a handle at the root. */
  static Wire attached(long handle) {
    Wire wire = begun();
    wire.attach(handle);
    return wire;
  }

  /** The name that a file of withFiles has. */
  static String nameOf(int file) {
    return "" + (char) ('a' + file / 26) + (char) ('a' + file % 26);
  }

  /** An object with so many files, all but the root in the root; handle 1 is at the root. */
  static Wire withFiles(int count) {
    Wire wire = new Wire();
    wire.sendThriftily(
        Bytes.frame(100, 65535, new Bytes().number(120, 4).string("9P2000")),
        Bytes.frame(104, 1, new Bytes().number(1, 4).number(NONE, 4).string("").string("")));
    wire.fillUp(count);
    return wire;
  }

  /** Makes files in the root, at which handle 1 must stand, until there are so many. */
  void fillUp(int count) {
    for (int i = yard.files(); i < count; i++) {
      sendThriftily(
          Bytes.frame(110, 1, new Bytes().number(1, 4).number(99, 4).number(0, 2)),
          Bytes.frame(114, 1, new Bytes().number(99, 4).string(nameOf(i)).number(7, 4).number(0, 1)),
          Bytes.frame(120, 1, new Bytes().number(99, 4)));
    }
  }

  static long word(byte[] bytes, int from, int n) {
    long word = 0;
    for (int i = 0; i < n; i++) {
      word |= (bytes[from + i] & 255L) << (8 * i);
    }
    return word;
  }

  void feed(byte... bytes) {
    for (int i = 0; i < bytes.length; i += 8) {
      int n = Math.min(8, bytes.length - i);
      yard.feed(word(bytes, i, n), n);
    }
  }

  byte[] outBytes() {
    byte[] bytes = new byte[yard.size(true)];
    for (int i = 0; i < bytes.length; i++) {
      bytes[i] = (byte) yard.out(i);
    }
    return bytes;
  }

  /** Sends a frame and tells the reply: "error x", or its type and body. */
  String send(int type, int tag, byte[] body) {
    yard.drop(yard.size(true));
    feed(Bytes.frame(type, tag, body));
    int told = yard.serve();
    byte[] out = outBytes();
    yard.drop(out.length);
    return tell(told, tag, out);
  }

  private static String tell(int told, int tag, byte[] out) {
    byte[] body = Arrays.copyOfRange(out, 7, out.length);
    byte[] due = Bytes.frame(told, tag, body);
    if (!Arrays.equals(out, due)) {
      return "a frame that is none: " + Bytes.hex(out) + " with type " + told;
    }
    if (told == 107 && body.length == 3 && body[0] == 1 && body[1] == 0) {
      return "error " + (char) body[2];
    }
    return told + ":" + Bytes.hex(body);
  }

  /** Sends frames in full words and drops the replies: few calls, as an object is good for 512. */
  void sendThriftily(byte[]... frames) {
    Bytes row = new Bytes();
    for (byte[] frame : frames) {
      row.raw(frame);
    }
    feed(row.array());
    for (int i = 0; i < frames.length; i++) {
      yard.serve();
    }
    yard.drop(yard.size(true));
  }

  String send(int type, Bytes body) {
    nextTag = nextTag % 60000 + 1;
    return send(type, nextTag, body.array());
  }

  String begin(long most, String dialect) {
    return send(100, 65535, new Bytes().number(most, 4).string(dialect).array());
  }

  String attach(long handle) {
    return send(104, new Bytes().number(handle, 4).number(NONE, 4).string("").string(""));
  }

  String walk(long handle, long fresh, String... names) {
    Bytes body = new Bytes().number(handle, 4).number(fresh, 4).number(names.length, 2);
    for (String name : names) {
      body.string(name);
    }
    return send(110, body);
  }

  String open(long handle, int how) {
    return send(112, new Bytes().number(handle, 4).number(how, 1));
  }

  String create(long handle, String name, long mode, int how) {
    return send(114, new Bytes().number(handle, 4).string(name).number(mode, 4).number(how, 1));
  }

  String read(long handle, long place, long count) {
    return send(116, new Bytes().number(handle, 4).number(place, 8).number(count, 4));
  }

  String write(long handle, long place, String text) {
    Bytes body = new Bytes().number(handle, 4).number(place, 8).number(text.length(), 4);
    return send(118, body.raw(text));
  }

  String close(long handle) {
    return send(120, new Bytes().number(handle, 4));
  }

  String remove(long handle) {
    return send(122, new Bytes().number(handle, 4));
  }

  String stat(long handle) {
    return send(124, new Bytes().number(handle, 4));
  }

  /** Makes a file in the directory at which a handle stands, without another handle left. */
  void make(long directory, String name, long mode) {
    String walked = walk(directory, 999);
    String made = create(999, name, mode, 0);
    String closed = close(999);
    if (!walked.startsWith("111") || !made.startsWith("115") || !closed.startsWith("121")) {
      throw new IllegalStateException(walked + " " + made + " " + closed);
    }
  }

  /** Removes the file to which names lead from a handle. */
  void unmake(long directory, String... names) {
    String walked = walk(directory, 999, names);
    String gone = remove(999);
    if (!walked.startsWith("111") || !gone.startsWith("123")) {
      throw new IllegalStateException(walked + " " + gone);
    }
  }

  boolean type(String text) {
    byte[] bytes = new Bytes().raw(text).array();
    boolean all = true;
    for (int i = 0; i < bytes.length; i += 8) {
      int n = Math.min(8, bytes.length - i);
      all = yard.type(word(bytes, i, n), n) && all;
    }
    return all;
  }

  /** The text becomes this one. */
  void text(String text) {
    yard.clear();
    if (!type(text)) {
      throw new IllegalStateException(text);
    }
  }
}
