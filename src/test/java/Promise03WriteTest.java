/** Promise 3, the replies to 118. */
public final class Promise03WriteTest {
  public static void main(String[] args) {
    Check check = new Check();
    places(check);
    limits(check);
    nothingWritten(check);
    orderOfErrors(check);
    form(check);
    check.end();
  }

  private static String content(Wire wire, int file) {
    StringBuilder text = new StringBuilder();
    for (int i = 0; i < wire.yard.about(file, 2); i++) {
      text.append((char) wire.yard.data(file, i));
    }
    return text.toString();
  }

  private static String written(int n) {
    return Bytes.reply(119, new Bytes().number(n, 4));
  }

  private static Wire planted() {
    Wire wire = Wire.attached(1);
    wire.walk(1, 2);
    wire.create(2, "a", 7, 1);
    return wire;
  }

  private static void places(Check check) {
    Wire wire = planted();
    check.same("write", wire.write(2, 0, "hello"), written(5));
    check.same("content", content(wire, 1), "hello");
    check.same("version", wire.yard.about(1, 1), 1);
    check.same("over it", wire.write(2, 1, "\u00ff\0"), written(2));
    check.same("content", content(wire, 1), "h\u00ff\0lo");
    check.same("over the end", wire.write(2, 4, "abc"), written(3));
    check.same("content", content(wire, 1), "h\u00ff\0labc");
    check.same("at the end", wire.write(2, 7, "d"), written(1));
    check.same("behind the end", wire.write(2, 10, "e"), written(1));
    check.same("content", content(wire, 1), "h\u00ff\0labcd\0\0e");
    check.same("version", wire.yard.about(1, 1), 5);
    wire.walk(1, 3, "a");
    wire.open(3, 17);
    check.same("content", content(wire, 1), "");
    check.same("zeros, not what was there", wire.write(3, 6, "x"), written(1));
    check.same("content", content(wire, 1), "\0\0\0\0\0\0x");
    check.same("directory's version", wire.yard.about(0, 1), 1);
  }

  private static void limits(Check check) {
    Wire wire = planted();
    String all = "abcdefghijklmnopqrstuvwx";
    check.same("25", wire.write(2, 0, all + "y"), Bytes.error('l'));
    check.same("24 at 1", wire.write(2, 1, all), Bytes.error('l'));
    check.same("1 at 24", wire.write(2, 24, "a"), Bytes.error('l'));
    check.same("1 at 2^63", wire.write(2, Long.MIN_VALUE, "a"), Bytes.error('l'));
    check.same("1 at 2^64 - 1", wire.write(2, -1, "a"), Bytes.error('l'));
    check.same("1 at 2^32", wire.write(2, 1L << 32, "a"), Bytes.error('l'));
    check.same("0 at 25", wire.write(2, 25, ""), Bytes.error('l'));
    check.same("0 at 2^64 - 1", wire.write(2, -1, ""), Bytes.error('l'));
    check.same("version", wire.yard.about(1, 1), 0);
    check.same("length", wire.yard.about(1, 2), 0);
    check.same("1 at 23", wire.write(2, 23, "z"), written(1));
    check.same("length", wire.yard.about(1, 2), 24);
    check.same("24 at 0", wire.write(2, 0, all), written(24));
    check.same("content", content(wire, 1), all);
  }

  private static void nothingWritten(Check check) {
    Wire wire = planted();
    check.same("0 at 0", wire.write(2, 0, ""), written(0));
    check.same("0 at 24", wire.write(2, 24, ""), written(0));
    check.same("length", wire.yard.about(1, 2), 0);
    check.same("version", wire.yard.about(1, 1), 2);
  }

  private static void orderOfErrors(Check check) {
    Wire wire = planted();
    String much = "abcdefghijklmnopqrstuvwxyz";
    wire.walk(1, 3, "a");
    wire.walk(1, 4, "a");
    wire.open(4, 0);
    check.same("no such", wire.write(9, 0, much), Bytes.error('h'));
    check.same("not open", wire.write(3, 0, much), Bytes.error('o'));
    check.same("for reading", wire.write(4, 0, "a"), Bytes.error('o'));
    wire.unmake(1, "a");
    check.same("o before g", wire.write(4, 0, "a"), Bytes.error('o'));
    check.same("g before l", wire.write(2, 0, much), Bytes.error('g'));
    check.same("g", wire.write(2, 0, "a"), Bytes.error('g'));
    check.same("as it was", wire.yard.about(1, 1) + wire.yard.about(1, 2), 0);
  }

  private static void form(Check check) {
    Wire wire = planted();
    byte[] good = new Bytes().number(2, 4).number(0, 8).number(3, 4).raw("abc").array();
    for (int n = 0; n < good.length; n++) {
      byte[] part = java.util.Arrays.copyOf(good, n);
      check.same("the first " + n, wire.send(118, 3, part), Bytes.error('f'));
    }
    check.same("more", wire.send(118, new Bytes().raw(good).raw("x")), Bytes.error('f'));
    Bytes great = new Bytes().number(2, 4).number(0, 8).number(4294967295L, 4).raw("abc");
    check.same("a great count", wire.send(118, great), Bytes.error('f'));
    check.same("good", wire.send(118, 3, good), written(3));
  }
}
