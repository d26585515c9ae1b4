/**
 * A tree for the tests of processes. Files: 1 a, 2 b, 3 c, 4 d, 5 e (directories), 6 p, 7 q
 * (plain), 8 a/x (directory), 9 b/x (plain), 10 b/y (directory), 11 c/z (plain), 12 a/x/w (plain).
 */
final class Grove {
  final Wire wire = Wire.attached(1);
  final MountYard yard = wire.yard;

  Grove() {
    for (String name : new String[] {"a", "b", "c", "d", "e"}) {
      wire.make(1, name, Wire.DIRECTORY + 7);
    }
    wire.make(1, "p", 7);
    wire.make(1, "q", 7);
    inside("a", "x", Wire.DIRECTORY + 7);
    inside("b", "x", 7);
    inside("b", "y", Wire.DIRECTORY + 7);
    inside("c", "z", 7);
    wire.walk(1, 2, "a", "x");
    wire.make(2, "w", 7);
    wire.close(2);
  }

  private void inside(String directory, String name, long mode) {
    wire.walk(1, 2, directory);
    wire.make(2, name, mode);
    wire.close(2);
  }

  String look(int process, String text) {
    wire.text(text);
    return Check.answer(() -> yard.look(process));
  }

  String member(int process, int k, String text) {
    wire.text(text);
    return Check.answer(() -> yard.member(process, k));
  }

  /** All of the list to which a path leads. */
  String list(int process, String text) {
    StringBuilder all = new StringBuilder();
    for (int k = 0; ; k++) {
      String one = member(process, k, text);
      if (one.equals("throws.IndexOutOfBoundsException")) {
        return all.toString().trim();
      }
      if (one.startsWith("throws")) {
        return one;
      }
      all.append(one).append(' ');
    }
  }

  String bind(int process, int how, String text) {
    wire.text(text);
    return Check.answer(() -> yard.bind(process, how));
  }

  String unbind(int process, String text) {
    wire.text(text);
    return Check.answer(() -> yard.unbind(process));
  }
}
