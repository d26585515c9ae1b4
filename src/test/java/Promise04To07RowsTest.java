/** Promises 4 to 7: size, out, drop and handles. */
public final class Promise04To07RowsTest {
  public static void main(String[] args) {
    Check check = new Check();
    sizes(check);
    out(check);
    drop(check);
    handles(check);
    check.end();
  }

  private static void sizes(Check check) {
    Wire wire = Wire.begun();
    wire.feed(new byte[] {9, 0, 0, 0, 108, 1, 2, 3, 4, 5});
    check.same("size(false)", wire.yard.size(false), 10);
    check.same("size(true)", wire.yard.size(true), 0);
    wire.yard.serve();
    check.same("size(false)", wire.yard.size(false), 1);
    check.same("size(true)", wire.yard.size(true), 7);
  }

  private static void out(Check check) {
    Wire wire = Wire.begun();
    check.call("out(0)", () -> wire.yard.out(0), "throws.IndexOutOfBoundsException");
    wire.feed(Bytes.frame(108, 0xfe80, new byte[2]));
    wire.yard.serve();
    int[] due = {7, 0, 0, 0, 109, 0x80, 0xfe};
    for (int i = 0; i < due.length; i++) {
      check.same("out(" + i + ")", wire.yard.out(i), due[i]);
    }
    int[] wrong = {7, -1, 8, 400, Integer.MAX_VALUE, Integer.MIN_VALUE};
    for (int i : wrong) {
      check.call("out(" + i + ")", () -> wire.yard.out(i), "throws.IndexOutOfBoundsException");
    }
  }

  private static void drop(Check check) {
    Wire wire = Wire.begun();
    check.same("drop(0)", wire.yard.drop(0), true);
    check.same("drop(1)", wire.yard.drop(1), false);
    wire.feed(Bytes.frame(108, 0x0201, new byte[2]));
    wire.yard.serve();
    int[] wrong = {-1, 8, Integer.MAX_VALUE, Integer.MIN_VALUE};
    for (int n : wrong) {
      check.same("drop(" + n + ")", wire.yard.drop(n), false);
      check.same("size(true)", wire.yard.size(true), 7);
    }
    check.same("drop(0)", wire.yard.drop(0), true);
    check.same("size(true)", wire.yard.size(true), 7);
    check.same("drop(4)", wire.yard.drop(4), true);
    check.same("OUT", Bytes.hex(wire.outBytes()), "6d0102");
    wire.feed(Bytes.frame(108, 0x0403, new byte[2]));
    wire.yard.serve();
    check.same("OUT", Bytes.hex(wire.outBytes()), "6d0102" + "070000006d0304");
    check.same("drop(10)", wire.yard.drop(10), true);
    check.same("size(true)", wire.yard.size(true), 0);
  }

  private static void handles(Check check) {
    Wire wire = Wire.begun();
    check.same("handles()", wire.yard.handles(), 0);
    for (int i = 1; i <= 8; i++) {
      wire.attach(i * 1000);
      check.same("handles()", wire.yard.handles(), i);
    }
    wire.attach(5);
    check.same("handles()", wire.yard.handles(), 8);
    wire.close(3000);
    wire.close(3000);
    check.same("handles()", wire.yard.handles(), 7);
    wire.remove(4000);
    check.same("handles()", wire.yard.handles(), 6);
    wire.walk(1000, 5);
    check.same("handles()", wire.yard.handles(), 7);
    wire.walk(5, 5);
    check.same("handles()", wire.yard.handles(), 7);
  }
}
