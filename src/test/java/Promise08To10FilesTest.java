/** Promises 8 to 10: about, data and files. */
public final class Promise08To10FilesTest {
  public static void main(String[] args) {
    Check check = new Check();
    MountYard fresh = new MountYard();
    int[] wrong = {1, 5, -1, 40, Integer.MAX_VALUE, Integer.MIN_VALUE};
    for (int i : wrong) {
      check.call("about(" + i + ", 0)", () -> fresh.about(i, 0), "throws.IndexOutOfBoundsException");
      check.call("data(" + i + ", 0)", () -> fresh.data(i, 0), "throws.IndexOutOfBoundsException");
    }
    parts(check);
    data(check);
    check.end();
  }

  private static void parts(Check check) {
    Wire wire = Wire.attached(1);
    wire.make(1, "d", Wire.DIRECTORY + 3);
    wire.walk(1, 2, "d");
    wire.create(2, "a", 4, 2);
    wire.write(2, 1, "a");
    wire.write(2, 0, "b");
    int[][] due = {{0, 1, 0, 15, 0}, {0, 1, 0, 11, 0}, {1, 2, 2, 4, 0}};
    for (int file = 0; file < 3; file++) {
      for (int part = 0; part < 5; part++) {
        String what = "about(" + file + ", " + part + ")";
        check.same(what, wire.yard.about(file, part), due[file][part]);
      }
      for (int part : new int[] {-1, 5, 6, Integer.MAX_VALUE, Integer.MIN_VALUE}) {
        int f = file;
        check.call("about(" + file + ", " + part + ")", () -> wire.yard.about(f, part),
            "throws.IndexOutOfBoundsException");
      }
    }
    check.call("about(3, 0)", () -> wire.yard.about(3, 0), "throws.IndexOutOfBoundsException");
    check.same("files()", wire.yard.files(), 3);
    wire.remove(2);
    check.same("about(2, 4)", wire.yard.about(2, 4), 1);
    check.same("about(2, 0)", wire.yard.about(2, 0), 1);
    check.same("files()", wire.yard.files(), 3);
  }

  private static void data(Check check) {
    Wire wire = Wire.attached(1);
    wire.create(1, "a", 7, 2);
    check.call("data(1, 0)", () -> wire.yard.data(1, 0), "throws.IndexOutOfBoundsException");
    wire.write(1, 1, "\u0080\u00ff");
    int[] due = {0, 128, 255};
    for (int i = 0; i < 3; i++) {
      check.same("data(1, " + i + ")", wire.yard.data(1, i), due[i]);
    }
    for (int i : new int[] {-1, 3, 24, Integer.MAX_VALUE, Integer.MIN_VALUE}) {
      check.call("data(1, " + i + ")", () -> wire.yard.data(1, i), "throws.IndexOutOfBoundsException");
    }
    check.call("data(2, 0)", () -> wire.yard.data(2, 0), "throws.IndexOutOfBoundsException");
    wire.remove(1);
    check.same("data(1, 1) of a gone file", wire.yard.data(1, 1), 128);
  }
}
