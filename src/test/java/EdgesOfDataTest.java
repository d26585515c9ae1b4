/** The edges of the messages 116 to 124, by the words of the document. */
public final class EdgesOfDataTest {
  private static final String WHOLE = "abcdefghijklmnopqrstuvwx";

  public static void main(String[] args) {
    Check check = new Check();
    readOpen(check);
    greatCounts(check);
    plainPlaces(check);
    directoryPlaces(check);
    sumsSinceOpened(check);
    whereItGoesOn(check);
    roomForStats(check);
    theCountTold(check);
    writeOpen(check);
    writeTooMuch(check);
    zeros(check);
    versionsOfWrites(check);
    close(check);
    removeWhateverComes(check);
    removeNotAllowed(check);
    removeChildren(check);
    removed(check);
    stat(check);
    check.end();
  }

  private static String told(Bytes bytes) {
    return Bytes.reply(117, new Bytes().number(bytes.count(), 4).raw(bytes.array()));
  }

  private static String told(String text) {
    return told(new Bytes().raw(text));
  }

  private static String content(Wire wire, int file) {
    StringBuilder text = new StringBuilder();
    for (int i = 0; i < wire.yard.about(file, 2); i++) {
      text.append((char) wire.yard.data(file, i));
    }
    return text.toString();
  }

  /** Handle 1 stands at a plain file, 1, that is full, and is open for both. */
  private static Wire full() {
    Wire wire = Wire.attached(1);
    wire.create(1, "a", 7, 2);
    wire.write(1, 0, WHOLE);
    return wire;
  }

  /**
   * Handle 2 is open at the directory 1, d, handle 3 stands there; in it 2 a, 3 bb, 4 ccc, 5 dddd,
   * whose stats have 30, 31, 32 and 33 bytes.
   */
  private static Wire listing(int most) {
    Wire wire = new Wire();
    wire.begin(most, "9P2000");
    wire.attach(1);
    wire.make(1, "d", Wire.DIRECTORY + 7);
    wire.walk(1, 3, "d");
    for (String name : new String[] {"a", "bb", "ccc", "dddd"}) {
      wire.make(3, name, 7);
    }
    wire.walk(3, 2);
    wire.open(2, 0);
    return wire;
  }

  /** The stats of files of listing, from one to another. */
  private static String stats(int first, int last) {
    String[] names = {"", "", "a", "bb", "ccc", "dddd"};
    Bytes all = new Bytes();
    for (int file = first; file <= last; file++) {
      all.stat(false, 0, file, 7, 0, names[file]);
    }
    return told(all);
  }

  private static void readOpen(Check check) {
    check.says("116 READ: handle, 8 bytes, c in 4 bytes. H, o: it is not open for reading, G.");
    for (int way : new int[] {0, 1, 2, 16, 17, 18}) {
      Wire wire = full();
      wire.attach(2);
      wire.walk(2, 2, "a");
      check.same("not open", wire.read(2, 0, 1), Bytes.error('o'));
      wire.open(2, way);
      String due = way % 16 == 1 ? Bytes.error('o') : told(way > 15 ? "" : "a");
      check.same("byte " + way, wire.read(2, 0, 1), due);
      wire.remove(1);
      check.same("gone", wire.read(2, 0, 1), Bytes.error(way % 16 == 1 ? 'o' : 'g'));
    }
  }

  private static void greatCounts(Check check) {
    check.says("c (never negative) counts as M - 11 if it is more.");
    for (long count : new long[] {61, 62, 149, 150, 65536, 1L << 31, 4294967295L}) {
      check.same("M - 11 is 61, c " + count, listing(72).read(2, 0, count), stats(2, 3));
      check.same("M - 11 is 60, c " + count, listing(71).read(2, 0, count), stats(2, 2));
    }
    check.same("M - 11 is 61, c 60", listing(72).read(2, 0, 60), stats(2, 2));
    check.same("M is 160", listing(160).read(2, 0, 4294967295L), stats(2, 5));
    check.same("M is 137", listing(137).read(2, 0, 4294967295L), stats(2, 5));
    check.same("M is 136", listing(136).read(2, 0, 4294967295L), stats(2, 4));
    check.same("plain", full().read(1, 0, 4294967295L), told(WHOLE));
    check.same("plain", full().read(1, 20, 1L << 31), told("uvwx"));
  }

  private static void plainPlaces(Check check) {
    check.says("Plain: the reply is the data from the place on that the 8 bytes say (never negative), "
        + "c bytes at most.");
    for (int place : new int[] {0, 1, 12, 22, 23, 24, 25, 100}) {
      for (int count : new int[] {0, 1, 2, 11, 12, 13, 24, 25}) {
        int from = Math.min(place, 24);
        String due = WHOLE.substring(from, Math.min(from + count, 24));
        check.same(count + " from " + place, full().read(1, place, count), told(due));
      }
    }
    for (int bit = 5; bit < 64; bit++) {
      check.same("from 2^" + bit, full().read(1, 1L << bit, 24), told(""));
      check.same("from 2^" + bit + " + 1", full().read(1, (1L << bit) + 1, 24), told(""));
    }
    check.same("from 2^64 - 1", full().read(1, -1, 24), told(""));
    check.same("from 2^64 - 24", full().read(1, -24, 24), told(""));
    check.same("from 2^63 - 1", full().read(1, Long.MAX_VALUE, 4294967295L), told(""));
    Wire empty = Wire.attached(1);
    empty.create(1, "a", 7, 0);
    check.same("no data", empty.read(1, 0, 24), told(""));
  }

  private static void directoryPlaces(Check check) {
    check.says("A directory: the 8 bytes must be 0, or the sum of the c's told since the latest one with 0");
    for (long place : new long[] {1, 29, 31, 60, 62, 63, 30 + (1L << 32), -1, -30, Long.MIN_VALUE, 1L << 32}) {
      Wire wire = listing(160);
      wire.read(2, 0, 30);
      check.same("place " + place, wire.read(2, place, 100), Bytes.error('f'));
      check.same("30 is right after that, too", wire.read(2, 30, 31), stats(3, 3));
    }
    Wire wire = listing(160);
    wire.read(2, 0, 30);
    wire.read(2, 30, 32);
    check.same("one before the latest", wire.read(2, 30, 33), Bytes.error('f'));
    check.same("the sum of both", wire.read(2, 61, 33), stats(4, 4));
    check.same("the sum of three", wire.read(2, 93, 0), told(""));
    check.same("and of none more", wire.read(2, 93, 33), stats(5, 5));
    check.same("0 again", wire.read(2, 0, 92), stats(2, 3));
    check.same("what was before counts no more", wire.read(2, 126, 100), Bytes.error('f'));
    check.same("nor with the new one", wire.read(2, 187, 100), Bytes.error('f'));
    check.same("since the latest one with 0", wire.read(2, 61, 100), stats(4, 5));
    check.same("not the c that was asked for", wire.read(2, 161, 100), Bytes.error('f'));
  }

  private static void sumsSinceOpened(Check check) {
    check.says("(0 when there was none since it was opened), else f;");
    Wire wire = listing(160);
    for (long place : new long[] {1, 30, 61, 126, -1}) {
      check.same("none was told, " + place, wire.read(2, place, 100), Bytes.error('f'));
    }
    check.same("0", wire.read(2, 0, 30), stats(2, 2));
    wire.close(2);
    wire.walk(3, 2);
    wire.open(2, 0);
    check.same("a handle of the same number", wire.read(2, 30, 100), Bytes.error('f'));
    wire.walk(3, 4);
    wire.open(4, 0);
    wire.read(4, 0, 61);
    check.same("another handle's sum", wire.read(2, 61, 100), Bytes.error('f'));
    check.same("its own", wire.read(4, 61, 32), stats(4, 4));
    wire.read(4, 0, 0);
    check.same("none told behind 0", wire.read(4, 93, 100), Bytes.error('f'));
  }

  private static void whereItGoesOn(Check check) {
    check.says("with 0 it begins at the first child, else behind the number of the last one told:");
    Wire wire = listing(160);
    wire.read(2, 0, 61);
    check.same("begins again", wire.read(2, 0, 61), stats(2, 3));
    wire.unmake(3, "bb");
    check.same("the last one told is gone", wire.read(2, 61, 32), stats(4, 4));
    wire.unmake(3, "dddd");
    wire.make(3, "z", 7);
    check.same("the next one is gone", wire.read(2, 93, 100), told(new Bytes().stat(false, 0, 6, 7, 0, "z")));
    check.same("the end", wire.read(2, 123, 100), told(""));
    wire.make(3, "bb", 7);
    check.same("behind the end", wire.read(2, 123, 100), told(new Bytes().stat(false, 0, 7, 7, 0, "bb")));
    check.same("the first child", wire.read(2, 0, 30), stats(2, 2));
    wire.unmake(3, "a");
    check.same("another first child", wire.read(2, 0, 32), stats(4, 4));
  }

  private static void roomForStats(Check check) {
    check.says("the stats of children, by their numbers, as many as have room in c.");
    int[] ends = {30, 61, 93, 126};
    for (int count = 0; count <= 130; count++) {
      int last = 1;
      for (int end : ends) {
        last += end <= count ? 1 : 0;
      }
      check.same("c " + count, listing(160).read(2, 0, count), stats(2, last));
    }
    Wire wire = listing(160);
    wire.read(2, 0, 92);
    check.same("31, where 32 are next and 33 behind", wire.read(2, 61, 31), told(""));
    Wire turned = Wire.attached(1);
    turned.make(1, "d", Wire.DIRECTORY + 7);
    turned.walk(1, 2, "d");
    turned.make(2, "long", 7);
    turned.make(2, "s", 7);
    turned.open(2, 0);
    check.same("a short one waits for a long one", turned.read(2, 0, 32), told(""));
    Bytes both = new Bytes().stat(false, 0, 2, 7, 0, "long").stat(false, 0, 3, 7, 0, "s");
    check.same("by numbers, not by names", turned.read(2, 0, 100), told(both));
    Wire empty = Wire.attached(1);
    empty.create(1, "d", Wire.DIRECTORY, 0);
    check.same("no children", empty.read(1, 0, 100), told(""));
  }

  private static void theCountTold(Check check) {
    check.says("Reply: how many bytes in 4 (the c told), and these.");
    check.same("bytes", full().read(1, 21, 99), "117:" + "03000000" + "767778");
    check.same("none", full().read(1, 24, 99), "117:" + "00000000");
    String three = listing(160).read(2, 0, 93);
    check.same("a directory's", three.substring(0, 12), "117:" + "5d000000");
    check.same("and these", three.length(), 12 + 2 * 93);
  }

  private static void writeOpen(Check check) {
    check.says("118 WRITE: handle, 8 bytes, c in 4, c bytes. H, o: not open for writing, G,");
    for (int way : new int[] {0, 1, 2, 16, 17, 18}) {
      Wire wire = full();
      wire.attach(2);
      wire.walk(2, 2, "a");
      check.same("not open", wire.write(2, 0, "b"), Bytes.error('o'));
      wire.open(2, way);
      int version = wire.yard.about(1, 1);
      boolean may = way % 16 != 0;
      check.same("byte " + way, wire.write(2, 0, "b"), may ? "119:01000000" : "error o");
      check.same("version", wire.yard.about(1, 1), version + (may ? 1 : 0));
      wire.remove(1);
      check.same("gone", wire.write(2, 0, "c"), Bytes.error(may ? 'g' : 'o'));
      check.same("version", wire.yard.about(1, 1), version + (may ? 1 : 0));
    }
    Wire wire = listing(160);
    check.same("a directory", wire.write(2, 0, ""), Bytes.error('o'));
    for (int place = 0; place + 3 <= 24; place++) {
      Wire over = full();
      over.write(1, place, "XYZ");
      String due = WHOLE.substring(0, place) + "XYZ" + WHOLE.substring(place + 3);
      check.same("three over what was there, at " + place, content(over, 1), due);
    }
    Wire partly = Wire.attached(1);
    partly.create(1, "a", 7, 1);
    partly.write(1, 0, "abcd");
    partly.write(1, 2, "XYZ");
    check.same("over the end", content(partly, 1), "abXYZ");
  }

  private static void writeTooMuch(Check check) {
    check.says("l: the place (never negative) and c are more than 24 together.");
    for (int place = 0; place <= 26; place++) {
      for (int count : new int[] {0, 1, 2, 12, 23, 24, 25, 26}) {
        Wire wire = Wire.attached(1);
        wire.create(1, "a", 7, 1);
        boolean much = place + count > 24;
        String due = much ? "error l" : Bytes.reply(119, new Bytes().number(count, 4));
        check.same(count + " at " + place, wire.write(1, place, "z".repeat(count)), due);
        check.same("version", wire.yard.about(1, 1), much ? 0 : 1);
        check.same("length", wire.yard.about(1, 2), much || count == 0 ? 0 : place + count);
      }
    }
    for (int bit = 5; bit < 64; bit++) {
      check.same("1 at 2^" + bit, full().write(1, 1L << bit, "z"), Bytes.error('l'));
      check.same("0 at 2^" + bit, full().write(1, 1L << bit, ""), Bytes.error('l'));
    }
    for (int below = 1; below <= 25; below++) {
      check.same("at 2^64 - " + below, full().write(1, -below, "z".repeat(below)), Bytes.error('l'));
      check.same("at 2^63 - " + below, full().write(1, Long.MAX_VALUE - below, "z"), Bytes.error('l'));
    }
  }

  private static void zeros(Check check) {
    check.says("When c is above 0, zeros fill what was not there before the place.");
    for (int there : new int[] {0, 1, 5}) {
      for (int place : new int[] {0, 1, 4, 5, 6, 23}) {
        Wire wire = Wire.attached(1);
        wire.create(1, "a", 7, 1);
        wire.write(1, 0, WHOLE.substring(0, there));
        wire.write(1, place, "Z");
        StringBuilder due = new StringBuilder(WHOLE.substring(0, there));
        due.setLength(Math.max(there, place + 1));
        due.setCharAt(place, 'Z');
        check.same("at " + place + " of " + there, content(wire, 1), due.toString());
        wire.write(1, 24, "");
        check.same("nothing at 24", content(wire, 1), due.toString());
      }
    }
    Wire wire = full();
    wire.attach(2);
    wire.walk(2, 2, "a");
    wire.open(2, 17);
    wire.write(2, 10, "");
    check.same("c = 0 fills nothing", content(wire, 1), "");
    wire.write(2, 3, "Z");
    check.same("what was taken away does not come back", content(wire, 1), "\0\0\0Z");
  }

  private static void versionsOfWrites(Check check) {
    check.says("The version is 1 greater (also for c = 0). Reply: c in 4.");
    Wire wire = Wire.attached(1);
    wire.create(1, "a", 7, 1);
    check.same("c = 0", wire.write(1, 0, ""), "119:00000000");
    check.same("version", wire.yard.about(1, 1), 1);
    check.same("c = 24", wire.write(1, 0, WHOLE), "119:18000000");
    check.same("version", wire.yard.about(1, 1), 2);
    check.same("the same again", wire.write(1, 0, WHOLE), "119:18000000");
    check.same("version", wire.yard.about(1, 1), 3);
    check.same("c = 0 at 24", wire.write(1, 24, ""), "119:00000000");
    check.same("version", wire.yard.about(1, 1), 4);
    check.same("the directory's version", wire.yard.about(0, 1), 1);
  }

  private static void close(Check check) {
    check.says("120 CLOSE: handle. H. It is no more. Reply: nothing.");
    Wire wire = full();
    wire.attach(2);
    check.same("an open one", wire.close(1), "121:");
    check.same("handles()", wire.yard.handles(), 1);
    check.same("once more", wire.close(1), Bytes.error('h'));
    check.same("handles()", wire.yard.handles(), 1);
    check.same("the file stays", wire.yard.about(1, 4), 0);
    check.same("the other one stays", wire.stat(2).startsWith("125"), true);
    check.same("the last one", wire.close(2), "121:");
    check.same("handles()", wire.yard.handles(), 0);
    check.same("the talk goes on", wire.attach(1).startsWith("105"), true);
  }

  private static void removeWhateverComes(Check check) {
    check.says("122 REMOVE: handle. H. It is no more, whatever comes: G,");
    Wire wire = Wire.attached(1);
    wire.make(1, "a", 7);
    wire.walk(1, 2, "a");
    wire.walk(1, 3, "a");
    check.same("no such", wire.remove(9), Bytes.error('h'));
    check.same("handles()", wire.yard.handles(), 3);
    check.same("the file", wire.remove(2), "123:");
    check.same("handles()", wire.yard.handles(), 2);
    check.same("version", wire.yard.about(0, 1), 2);
    check.same("gone", wire.remove(3), Bytes.error('g'));
    check.same("handles()", wire.yard.handles(), 1);
    check.same("version", wire.yard.about(0, 1), 2);
    check.same("the root", wire.remove(1), Bytes.error('m'));
    check.same("handles()", wire.yard.handles(), 0);
    check.same("no such any more", wire.stat(1), Bytes.error('h'));
    check.same("its number is free", wire.attach(1).startsWith("105"), true);
  }

  private static void removeNotAllowed(Check check) {
    check.says("m: it is the root, or its parent may not be written;");
    Wire wire = Wire.attached(1);
    check.same("the root", wire.remove(1), Bytes.error('m'));
    check.same("it is not gone", wire.yard.about(0, 4), 0);
    check.same("version", wire.yard.about(0, 1), 0);
    // What a parent may be never changes, so that a file in one that may not be written can't be.
    for (int rights = 0; rights < 8; rights++) {
      Wire inside = Wire.attached(1);
      inside.make(1, "d", Wire.DIRECTORY + rights);
      inside.walk(1, 2, "d");
      String made = inside.create(2, "a", 0, 0);
      boolean may = rights / 2 % 2 == 1;
      check.same("made, rights " + rights, made.startsWith("115"), may);
      check.same("removed, rights " + rights, inside.remove(2), "123:");
      check.same("which of both", inside.yard.about(1, 4), may ? 0 : 1);
    }
  }

  private static void removeChildren(Check check) {
    check.says("b: it has children.");
    Wire wire = Wire.attached(1);
    wire.make(1, "d", Wire.DIRECTORY + 7);
    wire.walk(1, 2, "d");
    wire.create(2, "a", 7, 0);
    wire.walk(1, 3, "d");
    check.same("one child", wire.remove(3), Bytes.error('b'));
    check.same("handles()", wire.yard.handles(), 2);
    check.same("not gone", wire.yard.about(1, 4), 0);
    check.same("the root's version", wire.yard.about(0, 1), 1);
    wire.remove(2);
    wire.walk(1, 3, "d");
    check.same("none any more", wire.remove(3), "123:");
  }

  private static void removed(Check check) {
    check.says("The file is gone; its parent's version is 1 greater. Reply: nothing.");
    Wire wire = Wire.attached(1);
    wire.make(1, "d", Wire.DIRECTORY + 7);
    wire.walk(1, 2, "d");
    wire.create(2, "a", 0, 2);
    wire.write(2, 0, "abc");
    check.same("remove", wire.remove(2), "123:");
    check.same("gone", wire.yard.about(2, 4), 1);
    check.same("its version", wire.yard.about(2, 1), 1);
    check.same("its parent's", wire.yard.about(1, 1), 2);
    check.same("the root's", wire.yard.about(0, 1), 1);
    check.same("files()", wire.yard.files(), 3);
  }

  private static void stat(Check check) {
    check.says("124 STAT: handle. H, G. Reply: its stat.");
    Wire wire = Wire.attached(1);
    wire.make(1, "abcd", 0);
    wire.walk(1, 2, "abcd");
    Bytes due = new Bytes().stat(false, 0, 1, 0, 0, "abcd");
    check.same("one that may be nothing", wire.stat(2), Bytes.reply(125, due));
    check.same("the root", wire.stat(1), Bytes.reply(125, new Bytes().stat(true, 1, 0, 7, 0, "")));
    wire.unmake(1, "abcd");
    check.same("gone", wire.stat(2), Bytes.error('g'));
    check.same("handles()", wire.yard.handles(), 2);
    check.same("no such", wire.stat(3), Bytes.error('h'));
  }
}
