/** Promise 3, the replies to 116. */
public final class Promise03ReadTest {
  public static void main(String[] args) {
    Check check = new Check();
    plainFile(check);
    greatCounts(check);
    directory(check);
    placesInDirectories(check);
    changesWhileReading(check);
    root(check);
    wholeFrame(check);
    countsAboveTheFrame(check);
    orderOfErrors(check);
    form(check);
    check.end();
  }

  private static String told(Bytes bytes) {
    return Bytes.reply(117, new Bytes().number(bytes.count(), 4).raw(bytes.array()));
  }

  private static String told(String text) {
    return told(new Bytes().raw(text));
  }

  private static Bytes stat(int file, String name) {
    return new Bytes().stat(false, 0, file, 7, 0, name);
  }

  private static void plainFile(Check check) {
    Wire wire = Wire.attached(1);
    wire.create(1, "a", 7, 2);
    check.same("empty", wire.read(1, 0, 10), told(""));
    wire.write(1, 0, "abc\u00ffdefghijklmnopqrstuvw");
    check.same("all", wire.read(1, 0, 24), told("abc\u00ffdefghijklmnopqrstuvw"));
    check.same("some", wire.read(1, 0, 3), told("abc"));
    check.same("in the middle", wire.read(1, 2, 3), told("c\u00ffd"));
    check.same("none", wire.read(1, 2, 0), told(""));
    check.same("the end", wire.read(1, 22, 5), told("vw"));
    check.same("the last", wire.read(1, 23, 1), told("w"));
    check.same("at the end", wire.read(1, 24, 5), told(""));
    check.same("behind the end", wire.read(1, 25, 5), told(""));
    check.same("2^32", wire.read(1, 1L << 32, 5), told(""));
    check.same("2^63", wire.read(1, Long.MIN_VALUE, 5), told(""));
    check.same("2^64 - 1", wire.read(1, -1, 5), told(""));
    check.same("version", wire.yard.about(1, 1), 1);
  }

  private static void greatCounts(Check check) {
    Wire wire = Wire.attached(1);
    wire.create(1, "a", 7, 2);
    wire.write(1, 0, "hello");
    check.same("109", wire.read(1, 0, 109), told("hello"));
    check.same("110", wire.read(1, 0, 110), told("hello"));
    check.same("2^31", wire.read(1, 0, 1L << 31), told("hello"));
    check.same("2^32 - 1", wire.read(1, 1, 4294967295L), told("ello"));
  }

  /** A directory at handle 2, open: files 1 d, 2 d/a, 3 d/bb, 4 d/ccc, 5 d/dddd. */
  private static Wire planted(int most) {
    Wire wire = new Wire();
    wire.begin(most, "9P2000");
    wire.attach(1);
    wire.make(1, "d", Wire.DIRECTORY + 7);
    wire.walk(1, 3, "d");
    wire.make(3, "a", 7);
    wire.make(3, "bb", 7);
    wire.make(3, "ccc", 7);
    wire.make(3, "dddd", 7);
    wire.walk(1, 2, "d");
    wire.open(2, 0);
    return wire;
  }

  private static void directory(Check check) {
    Wire wire = planted(160);
    Bytes a = stat(2, "a");
    Bytes b = stat(3, "bb");
    Bytes c = stat(4, "ccc");
    Bytes d = stat(5, "dddd");
    check.same("bytes of stats", "" + a.count() + b.count() + c.count() + d.count(), "30313233");
    check.same("no room", wire.read(2, 0, 29), told(""));
    check.same("room for one", wire.read(2, 0, 30), told(a));
    check.same("room for no second", wire.read(2, 0, 60), told(a));
    check.same("room for two", wire.read(2, 0, 61), told(new Bytes().raw(a.array()).raw(b.array())));
    check.same("on, no room", wire.read(2, 61, 31), told(""));
    check.same("on", wire.read(2, 61, 32), told(c));
    check.same("on", wire.read(2, 93, 1000), told(d));
    check.same("the end", wire.read(2, 126, 1000), told(""));
    check.same("again", wire.read(2, 126, 1000), told(""));
    check.same("from the beginning", wire.read(2, 0, 31), told(a));
    check.same("on", wire.read(2, 30, 32), told(b));
  }

  private static void placesInDirectories(Check check) {
    Wire wire = planted(160);
    String wrong = Bytes.error('f');
    check.same("none was told", wire.read(2, 1, 100), wrong);
    check.same("none was told", wire.read(2, 30, 100), wrong);
    wire.read(2, 0, 61);
    check.same("60", wire.read(2, 60, 100), wrong);
    check.same("62", wire.read(2, 62, 100), wrong);
    check.same("30", wire.read(2, 30, 100), wrong);
    check.same("61 + 2^32", wire.read(2, 61 + (1L << 32), 100), wrong);
    check.same("-1", wire.read(2, -1, 100), wrong);
    check.same("61", wire.read(2, 61, 32), told(stat(4, "ccc")));
    check.same("61 again", wire.read(2, 61, 32), wrong);
    wire.read(2, 0, 1);
    check.same("nothing was told since 0", wire.read(2, 93, 100), wrong);
    wire.read(2, 0, 30);
    check.same("since the latest 0", wire.read(2, 30, 31), told(stat(3, "bb")));
    wire.walk(3, 4);
    wire.open(4, 0);
    check.same("another handle", wire.read(4, 61, 100), wrong);
    check.same("another handle", wire.read(4, 0, 30), told(stat(2, "a")));
    check.same("the first handle", wire.read(2, 61, 33), told(stat(4, "ccc")));
    wire.close(2);
    wire.walk(3, 2);
    wire.open(2, 0);
    check.same("opened anew", wire.read(2, 93, 100), wrong);
  }

  private static void changesWhileReading(Check check) {
    Wire wire = planted(160);
    wire.read(2, 0, 61);
    wire.unmake(3, "bb");
    wire.unmake(3, "ccc");
    wire.make(3, "e", 7);
    Bytes rest = new Bytes().raw(stat(5, "dddd").array()).raw(stat(6, "e").array());
    check.same("behind one that is gone", wire.read(2, 61, 200), told(rest));
    check.same("the end", wire.read(2, 124, 200), told(""));
    wire.make(3, "bb", 7);
    check.same("a new one", wire.read(2, 124, 200), told(stat(7, "bb")));
    check.same("without those that are gone", wire.read(2, 0, 61),
        told(new Bytes().raw(stat(2, "a").array())));
    wire.walk(3, 4, "a");
    wire.open(4, 17);
    wire.write(4, 2, "x");
    check.same("as it is now", wire.read(2, 0, 30),
        told(new Bytes().stat(false, 2, 2, 7, 3, "a")));
  }

  /** The root has itself as parent, so it is one of its children by the document's words. */
  private static void root(Check check) {
    Wire wire = Wire.attached(1);
    wire.walk(1, 2);
    wire.open(2, 0);
    Bytes itself = new Bytes().stat(true, 0, 0, 7, 0, "");
    check.same("empty root", wire.read(2, 0, 100), told(itself));
    wire.make(1, "a", 7);
    Bytes both = new Bytes().stat(true, 1, 0, 7, 0, "").stat(false, 0, 1, 7, 0, "a");
    check.same("root with a file", wire.read(2, 0, 100), told(both));
  }

  private static void wholeFrame(Check check) {
    Wire wire = planted(64);
    check.same("M is 64", wire.read(2, 0, 200), told(stat(2, "a")));
    check.same("on", wire.read(2, 30, 53), told(stat(3, "bb")));
    Wire full = Wire.attached(1);
    full.begin(160, "9P2000");
    full.attach(1);
    full.make(1, "d", Wire.DIRECTORY + 7);
    full.walk(1, 2, "d");
    Bytes four = new Bytes();
    String[] names = {"a", "b", "c", "d"};
    for (int i = 0; i < 4; i++) {
      full.make(2, names[i], 7);
      four.raw(stat(2 + i, names[i]).array());
    }
    full.make(2, "e", 7);
    full.open(2, 0);
    check.same("120 of 149", full.read(2, 0, 4294967295L), told(four));
    full.unmake(1, "d", "e");
    full.make(1, "x", 7);
    check.same("the end", full.read(2, 120, 149), told(""));
  }

  /** With M = 72 there is room for the 61 bytes of two stats, with M = 71 for the first alone. */
  private static void countsAboveTheFrame(Check check) {
    Bytes both = new Bytes().raw(stat(2, "a").array()).raw(stat(3, "bb").array());
    for (long count : new long[] {61, 62, 1L << 31, 4294967295L}) {
      check.same("M is 72, count " + count, planted(72).read(2, 0, count), told(both));
      check.same("M is 71, count " + count, planted(71).read(2, 0, count), told(stat(2, "a")));
    }
  }

  private static void orderOfErrors(Check check) {
    Wire wire = planted(160);
    wire.walk(3, 4, "a");
    wire.walk(3, 5, "a");
    wire.walk(3, 6, "a");
    wire.open(4, 0);
    wire.open(5, 1);
    check.same("no such", wire.read(9, 0, 1), Bytes.error('h'));
    check.same("not open", wire.read(6, 0, 1), Bytes.error('o'));
    check.same("for writing", wire.read(5, 0, 1), Bytes.error('o'));
    check.same("for reading", wire.read(4, 0, 1), told(""));
    wire.unmake(3, "a");
    check.same("gone", wire.read(4, 0, 1), Bytes.error('g'));
    check.same("o before g", wire.read(5, 0, 1), Bytes.error('o'));
    wire.unmake(3, "bb");
    wire.unmake(3, "ccc");
    wire.unmake(3, "dddd");
    wire.unmake(1, "d");
    check.same("g before f", wire.read(2, 5, 1), Bytes.error('g'));
  }

  private static void form(Check check) {
    Wire wire = planted(160);
    byte[] good = new Bytes().number(2, 4).number(0, 8).number(0, 4).array();
    for (int n = 0; n < good.length; n++) {
      byte[] part = java.util.Arrays.copyOf(good, n);
      check.same("the first " + n, wire.send(116, 3, part), Bytes.error('f'));
    }
    check.same("more", wire.send(116, new Bytes().raw(good).raw("x")), Bytes.error('f'));
    check.same("good", wire.send(116, 3, good), told(""));
  }
}
