/** Promises 11 and 12: type and clear. */
public final class Promise11To12TextTest {
  public static void main(String[] args) {
    Check check = new Check();
    counts(check);
    signs(check);
    sixty(check);
    clear(check);
    check.end();
  }

  private static void counts(Check check) {
    MountYard yard = new MountYard();
    long slashes = 0x2f2f2f2f2f2f2f2fL;
    for (int n : new int[] {0, 9, -1, 16, Integer.MAX_VALUE, Integer.MIN_VALUE}) {
      check.same("type of " + n, yard.type(slashes, n), false);
    }
    for (int n = 1; n <= 8; n++) {
      check.same("type of " + n, yard.type(slashes, n), true);
    }
  }

  private static void signs(Check check) {
    for (int sign = 0; sign < 256; sign++) {
      boolean due = sign >= 'a' && sign <= 'z' || sign == '.' || sign == '/' || sign == ' ';
      MountYard yard = new MountYard();
      check.same("sign " + sign, yard.type(sign, 1), due);
      check.same("sign " + sign + " at the end", yard.type((long) sign << 56 | 0x61616161616161L, 8),
          due);
      check.same("a sign above n", yard.type((long) sign << 8 | 0x61, 1), true);
    }
    Wire wire = Wire.attached(1);
    wire.make(1, "ab", 7);
    check.same("type", wire.yard.type('a', 1), true);
    check.same("wrong", wire.yard.type(0x4162L, 2), false);
    check.same("type", wire.yard.type(0x2f62L, 2), true);
    check.same("look(0): nothing of the wrong one is there", wire.yard.look(0), 1);
  }

  private static void sixty(Check check) {
    Wire wire = Wire.attached(1);
    wire.make(1, "a", 7);
    for (int i = 0; i < 7; i++) {
      check.same("type of 8", wire.type("////////"), true);
    }
    check.same("61", wire.yard.type(0x2f2f2f2f2fL, 5), false);
    check.same("59", wire.type("///"), true);
    check.same("61", wire.yard.type(0x6161L, 2), false);
    check.same("60", wire.type("a"), true);
    check.same("61", wire.yard.type('a', 1), false);
    check.same("look(0)", wire.yard.look(0), 1);
    wire.yard.clear();
    check.same("after clear", wire.type("a/../a/../a/../a/../a/../a/../a/../a/../a/../a/../a/../a/../"),
        true);
    check.same("look(0)", wire.yard.look(0), 0);
  }

  private static void clear(Check check) {
    Wire wire = Wire.attached(1);
    wire.type("x");
    check.call("look(0)", () -> wire.yard.look(0), "throws.NoSuchElementException");
    wire.yard.clear();
    check.same("look(0)", wire.yard.look(0), 0);
    wire.yard.clear();
    check.same("look(0)", wire.yard.look(0), 0);
  }
}
