/** Promise 3, the replies to 120, 122 and 124. */
public final class Promise03RemoveTest {
  public static void main(String[] args) {
    Check check = new Check();
    close(check);
    remove(check);
    removeFails(check);
    goneStays(check);
    stat(check);
    form(check);
    check.end();
  }

  private static void close(Check check) {
    Wire wire = Wire.attached(1);
    wire.attach(2);
    wire.create(2, "a", 7, 2);
    check.same("close", wire.close(2), "121:");
    check.same("handles()", wire.yard.handles(), 1);
    check.same("again", wire.close(2), Bytes.error('h'));
    check.same("NONE", wire.close(Wire.NONE), Bytes.error('h'));
    wire.walk(1, 2, "a");
    wire.unmake(1, "a");
    check.same("one at a gone file", wire.close(2), "121:");
    check.same("handles()", wire.yard.handles(), 1);
    wire.attach(2);
    check.same("not open any more", wire.write(2, 0, ""), Bytes.error('o'));
  }

  private static void remove(Check check) {
    Wire wire = Wire.attached(1);
    wire.make(1, "d", Wire.DIRECTORY);
    wire.make(1, "a", 0);
    wire.walk(1, 2, "d");
    check.same("a directory", wire.remove(2), "123:");
    check.same("gone", wire.yard.about(1, 4), 1);
    check.same("parent's version", wire.yard.about(0, 1), 3);
    check.same("version", wire.yard.about(1, 1), 0);
    check.same("handles()", wire.yard.handles(), 1);
    wire.walk(1, 2, "a");
    check.same("a file", wire.remove(2), "123:");
    check.same("gone", wire.yard.about(2, 4), 1);
    check.same("parent's version", wire.yard.about(0, 1), 4);
    check.same("files()", wire.yard.files(), 3);
    wire.walk(1, 2);
    wire.create(2, "b", 7, 2);
    check.same("open", wire.remove(2), "123:");
    check.same("gone", wire.yard.about(3, 4), 1);
  }

  private static void removeFails(Check check) {
    Wire wire = Wire.attached(1);
    wire.make(1, "d", Wire.DIRECTORY + 7);
    wire.walk(1, 2, "d");
    wire.create(2, "a", 7, 0);
    wire.close(2);
    check.same("no such", wire.remove(5), Bytes.error('h'));
    check.same("handles()", wire.yard.handles(), 1);
    wire.walk(1, 2, "d");
    check.same("children", wire.remove(2), Bytes.error('b'));
    check.same("it is no more", wire.yard.handles(), 1);
    wire.attach(2);
    check.same("the root", wire.remove(2), Bytes.error('m'));
    check.same("it is no more", wire.yard.handles(), 1);
    wire.walk(1, 2, "d", "a");
    wire.unmake(1, "d", "a");
    check.same("gone", wire.remove(2), Bytes.error('g'));
    check.same("it is no more", wire.yard.handles(), 1);
    check.same("once", wire.yard.about(1, 1), 2);
    check.same("now without children", wire.walk(1, 2, "d").startsWith("111"), true);
    check.same("now without children", wire.remove(2), "123:");
    for (int rights = 0; rights < 8; rights++) {
      parentsRights(check, rights);
    }
  }

  /** No file can be made where none could be removed: modes never change. */
  private static void parentsRights(Check check, int rights) {
    Wire wire = Wire.attached(1);
    wire.make(1, "p", Wire.DIRECTORY + rights);
    wire.walk(1, 2, "p");
    String made = wire.create(2, "a", 7, 0);
    boolean may = (rights & 2) != 0;
    check.same("made with rights " + rights, made.startsWith("115"), may);
    if (may) {
      check.same("removed with rights " + rights, wire.remove(2), "123:");
    }
  }

  private static void goneStays(Check check) {
    Wire wire = Wire.attached(1);
    wire.make(1, "d", Wire.DIRECTORY + 7);
    wire.walk(1, 2, "d");
    wire.walk(1, 3, "d");
    wire.create(2, "a", 6, 2);
    wire.write(2, 0, "xyz");
    wire.walk(3, 4, "a");
    wire.remove(4);
    int[] due = {1, 1, 3, 6, 1};
    for (int part = 0; part < 5; part++) {
      check.same("about(2, " + part + ")", wire.yard.about(2, part), due[part]);
    }
    check.same("data(2, 2)", wire.yard.data(2, 2), (int) 'z');
    check.same("write", wire.write(2, 0, "q"), Bytes.error('g'));
    check.same("read", wire.read(2, 0, 1), Bytes.error('g'));
    check.same("data(2, 0)", wire.yard.data(2, 0), (int) 'x');
    check.same("handles()", wire.yard.handles(), 3);
    wire.make(3, "a", 0);
    check.same("another number", wire.yard.files(), 4);
    check.same("about(2, 4)", wire.yard.about(2, 4), 1);
    check.same("stat", wire.stat(2), Bytes.error('g'));
  }

  private static void stat(Check check) {
    Wire wire = Wire.attached(1);
    check.same("the root", wire.stat(1),
        Bytes.reply(125, new Bytes().stat(true, 0, 0, 7, 0, "")));
    wire.walk(1, 2);
    wire.create(2, "abcd", 5, 2);
    wire.write(2, 3, "a");
    check.same("plain", wire.stat(2),
        Bytes.reply(125, new Bytes().stat(false, 1, 1, 5, 4, "abcd")));
    check.same("the root", wire.stat(1),
        Bytes.reply(125, new Bytes().stat(true, 1, 0, 7, 0, "")));
    check.same("bytes", wire.stat(2), "125:1f00" + "00" + "01000000" + "0100000000000000"
        + "05000000" + "0400000000000000" + "0400" + "61626364");
    check.same("no such", wire.stat(3), Bytes.error('h'));
  }

  private static void form(Check check) {
    Wire wire = Wire.attached(1);
    for (int type = 120; type <= 124; type += 2) {
      for (int n = 0; n < 12; n++) {
        if (n != 4) {
          byte[] body = new byte[n];
          if (n > 0) {
            body[0] = 1;
          }
          check.same(type + " with " + n, wire.send(type, 3, body), Bytes.error('f'));
        }
      }
    }
    check.same("handles()", wire.yard.handles(), 1);
  }
}
