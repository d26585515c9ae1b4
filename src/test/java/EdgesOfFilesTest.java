/** The edges of files, numbers, strings, qids and stats, by the words of the document's terms. */
public final class EdgesOfFilesTest {
  private static final String NONE_THERE = "throws.IndexOutOfBoundsException";

  public static void main(String[] args) {
    Check check = new Check();
    fortyFiles(check);
    numbersInOrder(check);
    root(check);
    names(check);
    parents(check);
    firstVersionAndData(check);
    modes(check);
    gone(check);
    numbersOfGoneFiles(check);
    children(check);
    numbersInMessages(check);
    strings(check);
    qids(check);
    stats(check);
    check.end();
  }

  private static void fortyFiles(Check check) {
    check.says("FILES have numbers 0, 1, .. in the order in which they are made, 40 at most in all;");
    Wire wire = Wire.withFiles(39);
    check.same("files()", wire.yard.files(), 39);
    check.same("the fortieth", wire.create(1, "last", 5, 0),
        Bytes.reply(115, new Bytes().qid(false, 0, 39).number(96, 4)));
    check.same("files()", wire.yard.files(), 40);
    check.same("its mode", wire.yard.about(39, 3), 5);
    Wire full = Wire.withFiles(40);
    check.same("one more", full.create(1, "more", 7, 0), Bytes.error('l'));
    check.same("files()", full.yard.files(), 40);
    check.call("about(40, 0)", () -> full.yard.about(40, 0), NONE_THERE);
    check.same("the root's version", full.yard.about(0, 1), 39);
  }

  private static void numbersInOrder(Check check) {
    Wire wire = Wire.attached(1);
    wire.make(1, "z", Wire.DIRECTORY + 7);
    wire.walk(1, 2, "z");
    wire.make(2, "y", 1);
    wire.make(1, "a", 2);
    wire.make(2, "x", 4);
    int[] rights = {15, 15, 1, 2, 4};
    int[] parents = {0, 0, 1, 0, 1};
    for (int file = 0; file < 5; file++) {
      check.same("mode of " + file, wire.yard.about(file, 3), rights[file]);
      check.same("parent of " + file, wire.yard.about(file, 0), parents[file]);
    }
  }

  private static void root(Check check) {
    check.says("0 is the ROOT, there from the beginning.");
    Wire wire = new Wire();
    check.same("files()", wire.yard.files(), 1);
    check.same("about(0, 4)", wire.yard.about(0, 4), 0);
    wire.begin(100, "9P2000");
    check.same("attach", wire.attach(1), Bytes.reply(105, new Bytes().qid(true, 0, 0)));
  }

  private static void names(Check check) {
    check.says("A file has a NAME (1 to 4 small letters; the root has none),");
    for (int sign = 0; sign < 256; sign++) {
      boolean letter = sign >= 'a' && sign <= 'z';
      for (String kept : new String[] {"", "k", "kk", "kkk"}) {
        Wire wire = Wire.attached(1);
        String reply = wire.create(1, kept + (char) sign, 7, 0);
        check.same("sign " + sign + " behind " + kept, reply.startsWith("115"), letter);
        check.same("files()", wire.yard.files(), letter ? 2 : 1);
      }
    }
    for (String wrong : new String[] {"", "abcde", "aaaaaaaa", "\u00e1\u00e2", "aB", "Ba", "a\0\0\0"}) {
      check.same("[" + wrong + "]", Wire.attached(1).create(1, wrong, 7, 0), Bytes.error('n'));
    }
    check.same("the root's", Wire.attached(1).stat(1),
        Bytes.reply(125, new Bytes().stat(true, 0, 0, 7, 0, "")));
  }

  private static void parents(Check check) {
    check.says("a PARENT (a directory; the root its own),");
    Wire wire = Wire.attached(1);
    check.same("the root's", wire.yard.about(0, 0), 0);
    check.same("up from the root", wire.walk(1, 1, ".."),
        Bytes.reply(111, new Bytes().number(1, 2).qid(true, 0, 0)));
    wire.make(1, "p", 7);
    wire.walk(1, 2, "p");
    check.same("none is made in a plain file", wire.create(2, "a", 7, 0), Bytes.error('d'));
  }

  private static void firstVersionAndData(Check check) {
    check.says("a MODE, a VERSION (0 at first),");
    Wire wire = Wire.attached(1);
    check.same("the root's", wire.yard.about(0, 1), 0);
    wire.walk(1, 2);
    wire.create(2, "a", 7, 18);
    check.same("a new file's", wire.yard.about(1, 1), 0);
    check.says("and DATA (at most 24 bytes, none at first);");
    check.same("none", wire.yard.about(1, 2), 0);
    check.same("25", wire.write(2, 0, "0123456789012345678901234"), Bytes.error('l'));
    check.same("none", wire.yard.about(1, 2), 0);
    check.same("24", wire.write(2, 0, "012345678901234567890123"), "119:18000000");
    check.same("all", wire.yard.about(1, 2), 24);
    check.same("the last", wire.yard.data(1, 23), (int) '3');
    check.call("one more", () -> wire.yard.data(1, 24), NONE_THERE);
    check.call("the root's data", () -> wire.yard.data(0, 0), NONE_THERE);
  }

  private static void modes(Check check) {
    check.says("it is a DIRECTORY or PLAIN. A mode is the sum of 2^31 for a directory and of 4 "
        + "(it may be READ), 2 (WRITTEN) and 1 (GONE THROUGH);");
    for (int rights = 0; rights < 8; rights++) {
      for (int kind = 0; kind < 2; kind++) {
        Wire wire = Wire.attached(1);
        wire.walk(1, 2);
        wire.create(2, "m", kind * Wire.DIRECTORY + rights, 0);
        String what = "rights " + rights + ", kind " + kind;
        check.same(what, wire.yard.about(1, 3), rights + 8 * kind);
        check.same(what, wire.stat(2),
            Bytes.reply(125, new Bytes().stat(kind == 1, 0, 1, rights, 0, "m")));
      }
    }
    check.says("the root's is 2^31 + 7.");
    check.same("about(0, 3)", new MountYard().about(0, 3), 15);
    check.same("mode in its stat", Wire.attached(1).stat(1).substring(34, 42), "07000080");
  }

  private static void gone(Check check) {
    check.says("A file that was removed is GONE, stays as it was then (its data, too),");
    Wire wire = Wire.attached(1);
    wire.make(1, "d", Wire.DIRECTORY + 7);
    wire.walk(1, 2, "d");
    wire.create(2, "a", 6, 2);
    wire.write(2, 0, "xyz");
    wire.walk(1, 3, "d", "a");
    wire.walk(1, 4, "d", "a");
    check.same("remove", wire.remove(3), "123:");
    check.same("open, which takes data away", wire.open(4, 17), Bytes.error('g'));
    check.same("write", wire.write(2, 0, "q"), Bytes.error('g'));
    check.same("remove again", wire.remove(4), Bytes.error('g'));
    wire.unmake(1, "d");
    wire.make(1, "d", Wire.DIRECTORY + 7);
    int[] due = {1, 1, 3, 6, 1};
    for (int part = 0; part < 5; part++) {
      check.same("about(2, " + part + ")", wire.yard.about(2, part), due[part]);
    }
    for (int i = 0; i < 3; i++) {
      check.same("data(2, " + i + ")", wire.yard.data(2, i), 'x' + i);
    }
    check.same("the gone directory's version", wire.yard.about(1, 1), 2);
  }

  private static void numbersOfGoneFiles(Check check) {
    check.says("and its number is not used again.");
    Wire wire = Wire.attached(1);
    wire.make(1, "a", 7);
    wire.unmake(1, "a");
    wire.make(1, "a", 5);
    check.same("files()", wire.yard.files(), 3);
    check.same("the first one's mode", wire.yard.about(1, 3), 7);
    check.same("the second one's mode", wire.yard.about(2, 3), 5);
    Wire full = Wire.withFiles(40);
    full.sendThriftily(
        Bytes.frame(110, 1, new Bytes().number(1, 4).number(2, 4).number(1, 2).string(Wire.nameOf(39))),
        Bytes.frame(122, 1, new Bytes().number(2, 4)));
    check.same("the last one is gone", full.yard.about(39, 4), 1);
    check.same("no room for another", full.create(1, "new", 7, 0), Bytes.error('l'));
  }

  private static void children(Check check) {
    check.says("The CHILDREN of a directory are the files with it as parent that are not gone.");
    Wire wire = Wire.attached(1);
    wire.make(1, "d", Wire.DIRECTORY + 7);
    wire.walk(1, 2, "d");
    wire.make(2, "a", 7);
    wire.make(2, "b", 7);
    wire.walk(1, 3, "d");
    wire.open(3, 0);
    Bytes a = new Bytes().stat(false, 0, 2, 7, 0, "a");
    Bytes both = new Bytes().raw(a.array()).stat(false, 0, 3, 7, 0, "b");
    check.same("both", wire.read(3, 0, 200), told(both));
    wire.unmake(2, "b");
    check.same("one", wire.read(3, 0, 200), told(a));
    check.same("not found", wire.walk(2, 4, "b"), Bytes.error('n'));
    wire.walk(1, 4, "d");
    check.same("one is a child", wire.remove(4), Bytes.error('b'));
    wire.unmake(2, "a");
    check.same("none", wire.read(3, 0, 200), told(new Bytes()));
    wire.walk(1, 4, "d");
    check.same("those that are gone are none", wire.remove(4), "123:");
  }

  private static String told(Bytes bytes) {
    return Bytes.reply(117, new Bytes().number(bytes.count(), 4).raw(bytes.array()));
  }

  private static void numbersInMessages(Check check) {
    check.says("NUMBERS in messages have 1, 2, 4 or 8 bytes, the lowest first.");
    Wire wire = Wire.begun();
    byte[] attach = {0x13, 0, 0, 0, 104, 0x34, 0x12, 4, 3, 2, 1, -1, -1, -1, -1, 0, 0, 0, 0};
    wire.feed(attach);
    check.call("attach", wire.yard::serve, 105);
    check.same("tag", "" + wire.yard.out(5) + " " + wire.yard.out(6), 0x34 + " " + 0x12);
    check.same("handle", wire.stat(0x01020304L).startsWith("125:"), true);
    check.same("another handle", wire.stat(0x04030201L), Bytes.error('h'));
    wire.create(0x01020304L, "a", 7, 2);
    wire.write(0x01020304L, 0, "abc");
    byte[] read = {0x17, 0, 0, 0, 116, 1, 0, 4, 3, 2, 1, 1, 0, 0, 0, 0, 0, 0, 0, 2, 0, 0, 0};
    wire.feed(read);
    check.call("read", wire.yard::serve, 117);
    check.same("the place is 1, the count 2", Bytes.hex(wire.outBytes()),
        "0d000000" + "75" + "0100" + "02000000" + "6263");
    check.same("the eighth byte counts", wire.read(0x01020304L, 1L << 56, 2), "117:00000000");
    check.same("the fourth byte counts", wire.read(0x01020304L, 0, 1L << 24), "117:03000000616263");
  }

  private static void strings(Check check) {
    check.says("A STRING is its length in 2 bytes and that many bytes.");
    Wire wire = new Wire();
    Bytes dialect = new Bytes().number(100, 4).raw((byte) 6, (byte) 0).raw("9P2000");
    check.same("a string", wire.send(100, 65535, dialect.array()).startsWith("101"), true);
    Bytes high = new Bytes().number(100, 4).raw((byte) 6, (byte) 1).raw("9P2000");
    check.same("the second byte counts", wire.send(100, 65535, high.array()), Bytes.error('f'));
    Bytes turned = new Bytes().number(100, 4).raw((byte) 0, (byte) 6).raw("9P2000");
    check.same("the lowest first", wire.send(100, 65535, turned.array()), Bytes.error('f'));
    String user = "u".repeat(160 - 7 - 8 - 2 - 2);
    wire.begin(160, "9P2000");
    Bytes longest = new Bytes().number(1, 4).number(Wire.NONE, 4).string(user).string("");
    check.same("the longest", wire.send(104, longest), Bytes.reply(105, new Bytes().qid(true, 0, 0)));
    Bytes shortest = new Bytes().number(2, 4).number(Wire.NONE, 4).string("").string("");
    check.same("the shortest", wire.send(104, shortest), Bytes.reply(105, new Bytes().qid(true, 0, 0)));
    Bytes any = new Bytes().number(3, 4).number(Wire.NONE, 4).string("\0\u00ff").string("A /");
    check.same("of any bytes", wire.send(104, any), Bytes.reply(105, new Bytes().qid(true, 0, 0)));
  }

  private static void qids(Check check) {
    check.says("A QID is a byte (128 for a directory, else 0), the version in 4 bytes, "
        + "the file's number in 8.");
    Wire wire = Wire.attached(1);
    wire.make(1, "d", Wire.DIRECTORY + 7);
    wire.walk(1, 2);
    wire.create(2, "a", 7, 1);
    wire.write(2, 0, "");
    wire.write(2, 0, "");
    wire.write(2, 0, "");
    check.same("plain", wire.walk(1, 3, "a"), "111:0100" + "00" + "03000000" + "0200000000000000");
    check.same("directory", wire.walk(1, 4, "d"), "111:0100" + "80" + "00000000" + "0100000000000000");
    check.same("the root", wire.walk(1, 5, ".."), "111:0100" + "80" + "02000000" + "0000000000000000");
  }

  private static void stats(Check check) {
    check.says("A STAT is the number of bytes behind these in 2, then the qid, the mode in 4, "
        + "the length of the data in 8, the name as a string.");
    String[] names = {"", "m", "mn", "mno", "mnop"};
    for (int letters = 0; letters <= 4; letters++) {
      Wire wire = Wire.attached(1);
      if (letters > 0) {
        wire.create(1, names[letters], 6, 2);
        wire.write(1, 20, "1234");
      }
      String hex = Bytes.hex(new Bytes().raw(names[letters]).array());
      String qid = letters == 0 ? "80" + "00000000" + "00" : "00" + "01000000" + "01";
      String rest = letters == 0 ? "07000080" + "00" : "06000000" + "18";
      check.same("a name of " + letters, wire.stat(1), "125:" + String.format("%02x00", 27 + letters)
          + qid + "00000000000000" + rest + "00000000000000" + "0" + letters + "00" + hex);
    }
  }
}
