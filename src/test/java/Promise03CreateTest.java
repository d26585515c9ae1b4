/** Promise 3, the replies to 114. */
public final class Promise03CreateTest {
  public static void main(String[] args) {
    Check check = new Check();
    newFiles(check);
    opennessOfNewFiles(check);
    names(check);
    orderOfErrors(check);
    fortyFiles(check);
    form(check);
    check.end();
  }

  private static String created(boolean directory, int file, int most) {
    return Bytes.reply(115, new Bytes().qid(directory, 0, file).number(most - 24, 4));
  }

  private static void newFiles(Check check) {
    Wire wire = Wire.attached(1);
    wire.walk(1, 2);
    check.same("directory", wire.create(2, "dir", Wire.DIRECTORY + 5, 0), created(true, 1, 120));
    check.same("mode", wire.yard.about(1, 3), 13);
    check.same("parent's version", wire.yard.about(0, 1), 1);
    wire.walk(1, 3);
    check.same("plain", wire.create(3, "abcd", 0x7ffffff8L + 3, 1), created(false, 2, 120));
    check.same("mode", wire.yard.about(2, 3), 3);
    check.same("parent's version", wire.yard.about(0, 1), 2);
    wire.walk(1, 4);
    check.same("all bits", wire.create(4, "z", 0xffffffffL, 0), created(true, 3, 120));
    check.same("mode", wire.yard.about(3, 3), 15);
    check.same("stat", wire.stat(4),
        Bytes.reply(125, new Bytes().stat(true, 0, 3, 7, 0, "z")));
    wire.close(2);
    wire.walk(1, 2, "z");
    check.same("inside", wire.create(2, "z", 0, 18), created(false, 4, 120));
    check.same("parent", wire.yard.about(4, 0), 3);
    check.same("parent's version", wire.yard.about(3, 1), 1);
    check.same("root's version", wire.yard.about(0, 1), 3);
    check.same("version", wire.yard.about(4, 1), 0);
    check.same("files()", wire.yard.files(), 5);
    check.same("handles()", wire.yard.handles(), 4);
  }

  private static void opennessOfNewFiles(Check check) {
    int[] ways = {0, 1, 2, 16, 17, 18};
    for (int way : ways) {
      Wire wire = Wire.attached(1);
      wire.walk(1, 2);
      check.same("create " + way, wire.create(2, "a", 0, way), created(false, 1, 120));
      boolean reading = way % 16 != 1;
      boolean writing = way % 16 != 0;
      check.same("reading", wire.read(2, 0, 1), reading ? "117:00000000" : "error o");
      check.same("writing", wire.write(2, 0, ""), writing ? "119:00000000" : "error o");
      check.same("open", wire.open(2, way), Bytes.error('o'));
    }
    Wire wire = Wire.attached(1);
    wire.walk(1, 2);
    wire.create(2, "d", Wire.DIRECTORY, 0);
    check.same("a directory is read", wire.read(2, 0, 9), "117:00000000");
  }

  private static void names(Check check) {
    Wire wire = Wire.attached(1);
    String[] wrong = {"", ".", "..", "abcde", "A", "a.", "a/b", "ab ", "a1", "{", "`", "a\0", "ab\0c",
        "abcd\0", "a\u00e1", "\u00ffabc"};
    for (String name : wrong) {
      check.same("[" + name + "]", wire.create(1, name, 7, 0), Bytes.error('n'));
    }
    check.same("files()", wire.yard.files(), 1);
    check.same("version", wire.yard.about(0, 1), 0);
    String[] right = {"a", "z", "az", "aza", "zzzz"};
    for (String name : right) {
      wire.walk(1, 2);
      check.same(name, wire.create(2, name, 7, 0).startsWith("115"), true);
      wire.close(2);
      check.same("again " + name, wire.create(1, name, 7, 0), Bytes.error('x'));
    }
    check.same("files()", wire.yard.files(), 6);
    wire.unmake(1, "aza");
    check.same("one that is gone", wire.create(1, "aza", 7, 0), created(false, 6, 120));
  }

  private static void orderOfErrors(Check check) {
    Wire wire = Wire.attached(1);
    long directory = Wire.DIRECTORY + 7;
    wire.make(1, "a", 7);
    wire.make(1, "d", Wire.DIRECTORY + 5);
    wire.make(1, "e", directory);
    wire.walk(1, 2, "a");
    wire.walk(1, 3, "d");
    wire.walk(1, 4, "e");
    wire.walk(1, 5);
    wire.open(5, 0);
    check.same("no such", wire.create(9, "", 0, 3), Bytes.error('h'));
    check.same("o before m", wire.create(5, "b", 0, 3), Bytes.error('o'));
    check.same("m before d", wire.create(2, "b", 0, 3), Bytes.error('m'));
    check.same("d before n", wire.create(2, "", 0, 0), Bytes.error('d'));
    check.same("m before n", wire.create(3, "", 0, 0), Bytes.error('m'));
    check.same("n before d", wire.create(1, "", directory, 1), Bytes.error('n'));
    check.same("x before d", wire.create(1, "a", directory, 1), Bytes.error('x'));
    for (int way : new int[] {1, 2, 16, 17, 18}) {
      check.same("d", wire.create(1, "b", directory, way), Bytes.error('d'));
    }
    wire.unmake(1, "e");
    wire.unmake(1, "a");
    check.same("m before g", wire.create(4, "b", 0, 3), Bytes.error('m'));
    check.same("g", wire.create(4, "b", 0, 0), Bytes.error('g'));
    check.same("g before d", wire.create(2, "b", 0, 0), Bytes.error('g'));
    check.same("files()", wire.yard.files(), 4);
  }

  private static void fortyFiles(Check check) {
    Wire wire = Wire.attached(1);
    for (int i = 1; i <= 39; i++) {
      wire.make(1, "" + (char) ('a' + i / 26) + (char) ('a' + i % 26), 7);
      if (i % 3 == 0) {
        wire.unmake(1, "" + (char) ('a' + i / 26) + (char) ('a' + i % 26));
      }
    }
    check.same("files()", wire.yard.files(), 40);
    check.same("full", wire.create(1, "x", 7, 0), Bytes.error('l'));
    check.same("d before l", wire.create(1, "x", Wire.DIRECTORY, 1), Bytes.error('d'));
    check.same("x before l", wire.create(1, "ab", 7, 0), Bytes.error('x'));
    check.same("version", wire.yard.about(0, 1), 52);
    check.same("files()", wire.yard.files(), 40);
    check.same("not open", wire.open(1, 0).startsWith("113"), true);
  }

  private static void form(Check check) {
    Wire wire = Wire.attached(1);
    byte[] good = new Bytes().number(1, 4).string("abc").number(7, 4).number(0, 1).array();
    for (int n = 0; n < good.length; n++) {
      byte[] part = java.util.Arrays.copyOf(good, n);
      check.same("the first " + n, wire.send(114, 3, part), Bytes.error('f'));
    }
    check.same("more", wire.send(114, new Bytes().raw(good).raw("x")), Bytes.error('f'));
    Bytes longOne = new Bytes().number(1, 4).number(5, 2).raw("abc").number(7, 4).number(0, 1);
    check.same("a longer string", wire.send(114, longOne), Bytes.error('f'));
    check.same("good", wire.send(114, 3, good), created(false, 1, 120));
  }
}
