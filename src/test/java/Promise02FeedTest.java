/** Promise 2: feed puts bytes behind IN, the lowest first. */
public final class Promise02FeedTest {
  public static void main(String[] args) {
    Check check = new Check();
    wrongCounts(check);
    orderOfBytes(check);
    fullRow(check);
    check.end();
  }

  private static Object fed(MountYard yard, long w, int n) {
    yard.feed(w, n);
    return yard.size(false);
  }

  private static void wrongCounts(Check check) {
    MountYard yard = new MountYard();
    int[] wrong = {0, 9, -1, -8, 100, Integer.MAX_VALUE, Integer.MIN_VALUE};
    for (int n : wrong) {
      check.call("feed(7, " + n + ")", () -> fed(yard, 7, n), "throws.IllegalArgumentException");
      check.same("size(false)", yard.size(false), 0);
    }
    int sum = 0;
    for (int n = 1; n <= 8; n++) {
      sum += n;
      int k = n;
      check.call("feed(-1, " + n + ")", () -> fed(yard, -1, k), sum);
    }
  }

  private static void orderOfBytes(Check check) {
    Wire wire = new Wire();
    // A flush of size 9 and tag 0x8877, in words that are cut at odd places; bytes above n do not count.
    wire.yard.feed(0xffffffffffff0009L, 2);
    wire.yard.feed(0x8877_6c_0000L, 5);
    wire.yard.feed(0x0102L, 2);
    check.same("serve()", wire.yard.serve(), 107);
    check.same("OUT", Bytes.hex(wire.outBytes()), "0a0000006b7788010076");
    check.same("size(false)", wire.yard.size(false), 0);
  }

  private static void fullRow(Check check) {
    MountYard yard = new MountYard();
    for (int i = 1; i <= 39; i++) {
      yard.feed(0, 8);
    }
    check.same("size(false)", yard.size(false), 312);
    check.call("feed of 1", () -> fed(yard, 0, 1), 313);
    check.call("feed of 8", () -> fed(yard, 0, 8), "throws.UnsupportedOperationException");
    check.call("feed of 0", () -> fed(yard, 0, 0), "throws.IllegalArgumentException");
    check.same("size(false)", yard.size(false), 313);
    check.call("feed of 7", () -> fed(yard, 0, 7), 320);
    check.call("feed of 1", () -> fed(yard, 0, 1), "throws.UnsupportedOperationException");
    check.call("feed of 9", () -> fed(yard, 0, 9), "throws.IllegalArgumentException");
    check.same("size(false)", yard.size(false), 320);
  }
}
