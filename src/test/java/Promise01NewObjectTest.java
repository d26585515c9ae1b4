/** Promise 1: a new object has only the root, and all rows are empty. */
public final class Promise01NewObjectTest {
  public static void main(String[] args) {
    Check check = new Check();
    MountYard yard = new MountYard();
    check.same("files()", yard.files(), 1);
    check.same("size(false)", yard.size(false), 0);
    check.same("size(true)", yard.size(true), 0);
    check.same("handles()", yard.handles(), 0);
    int[] root = {0, 0, 0, 15, 0};
    for (int part = 0; part < root.length; part++) {
      check.same("about(0, " + part + ")", yard.about(0, part), root[part]);
    }
    check.call("data(0, 0)", () -> yard.data(0, 0), "throws.IndexOutOfBoundsException");
    for (int process = 0; process < 4; process++) {
      int p = process;
      check.same("look(" + p + ") with an empty text", yard.look(p), 0);
      check.call("member", () -> yard.member(p, 1), "throws.IndexOutOfBoundsException");
      check.call("unbind", () -> yard.unbind(p), "throws.NoSuchElementException");
    }
    talkIsNotBegun(check);
    objectsAreApart(check);
    check.end();
  }

  private static void talkIsNotBegun(Check check) {
    Wire wire = new Wire();
    check.same("attach", wire.attach(1), Bytes.error('v'));
    check.same("M at first", wire.begin(1000, "no"), Bytes.reply(101,
        new Bytes().number(160, 4).string("unknown")));
  }

  private static void objectsAreApart(Check check) {
    Wire one = Wire.attached(1);
    Wire two = Wire.attached(1);
    one.make(1, "a", 7);
    one.text("a");
    check.same("files() of one", one.yard.files(), 2);
    check.same("files() of two", two.yard.files(), 1);
    check.same("look(0) of two", two.yard.look(0), 0);
  }
}
