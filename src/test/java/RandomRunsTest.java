import java.util.ArrayList;
import java.util.List;
import java.util.Random;
import java.util.TreeMap;
import java.util.TreeSet;

/** Long runs of calls, always the same ones, on the program and on the model of the document. */
public final class RandomRunsTest {
  private static final int RUNS = 1500;
  private static final int STEPS = 400;

  private final Random random;
  private final MountYard yard = new MountYard();
  private final Model model = new Model();
  private final List<String> calls = new ArrayList<>();
  private final TreeMap<String, Integer> seen;
  private boolean wrong = false;

  private RandomRunsTest(long seed, TreeMap<String, Integer> seen) {
    random = new Random(seed);
    this.seen = seen;
  }

  public static void main(String[] args) {
    TreeMap<String, Integer> seen = new TreeMap<>();
    int bad = 0;
    for (int run = 0; run < RUNS && bad < 3; run++) {
      RandomRunsTest one = new RandomRunsTest(run, seen);
      one.run();
      if (one.wrong) {
        bad++;
      }
    }
    boolean all = allWasTried(seen);
    if (args.length > 0) {
      System.out.println(seen);
    }
    if (bad > 0 || !all) {
      System.exit(1);
    }
  }

  /** A comparison is worth what was tried: every error of every type must have come. */
  private static boolean allWasTried(TreeMap<String, Integer> seen) {
    String[] replies = {"100 f l", "104 f v a h l", "108 f v", "110 f v h o l g d m n",
        "112 f v h o m g d", "114 f v h o m g d n x l", "116 f v h o g", "118 f v h o g l",
        "120 f v h", "122 f v h g m b", "124 f v h g"};
    TreeSet<String> due = new TreeSet<>();
    for (String line : replies) {
      String[] words = line.split(" ");
      due.add("reply " + words[0] + " fine");
      for (int i = 1; i < words.length; i++) {
        due.add("reply " + words[0] + " " + words[i]);
      }
    }
    due.add("reply break");
    due.add("serve throws.UnsupportedOperationException");
    due.add("serve throws.NoSuchElementException");
    due.add("feed throws.IllegalArgumentException");
    due.add("feed throws.UnsupportedOperationException");
    for (String name : new String[] {"look", "member", "bind", "unbind"}) {
      due.add(name + " throws.IllegalArgumentException");
      due.add(name + " throws.NoSuchElementException");
    }
    due.add("member throws.IndexOutOfBoundsException");
    due.add("bind throws.IllegalStateException");
    due.add("bind throws.UnsupportedOperationException");
    for (int i = 0; i < 4; i++) {
      due.add("bind " + (i + 1));
      due.add("unbind " + i);
    }
    due.removeAll(seen.keySet());
    if (!due.isEmpty()) {
      System.out.println("never tried: " + due);
    }
    return due.isEmpty();
  }

  private void run() {
    if (random.nextInt(20) > 0) {
      send(100, 65535, new Bytes().number(64 + random.nextInt(120), 4).string("9P2000"));
    }
    boolean manyFiles = random.nextInt(3) == 0;
    boolean manyNames = random.nextInt(3) == 0;
    for (int i = 0; i < STEPS && !wrong; i++) {
      step(manyFiles, manyNames);
    }
    for (int file = -1; file <= model.docCount() && !wrong; file++) {
      lookAtFile(file);
    }
  }

  private void compare(String call, Object got, String due) {
    calls.add(call + " -> " + got);
    String name = call.substring(0, call.indexOf('('));
    seen.merge(name + " " + due, 1, Integer::sum);
    if (!due.equals(got) && !wrong) {
      wrong = true;
      System.out.println(String.join("\n", calls));
      System.out.println("due is " + due);
    }
  }

  private void lookAtFile(int file) {
    for (int part = -1; part <= 5; part++) {
      int p = part;
      compare("about(" + file + ", " + part + ")", Check.answer(() -> yard.about(file, p)),
          model.about(file, part));
    }
    for (int i = -1; i <= 24; i++) {
      int k = i;
      compare("data(" + file + ", " + i + ")", Check.answer(() -> yard.data(file, k)),
          model.data(file, i));
    }
  }

  private void step(boolean manyFiles, boolean manyNames) {
    int choice = random.nextInt(1000);
    if (!model.isBegun() && choice < 300) {
      send(100, 65535, new Bytes().number(64 + random.nextInt(120), 4).string("9P2000"));
    } else if (manyFiles && choice < 150) {
      plant();
    } else if (manyNames && choice < 500) {
      ofProcesses();
    } else if (choice < 700) {
      message();
    } else if (choice < 705) {
      feed(random.nextLong(), random.nextInt(12) - 2);
    } else if (choice < 730) {
      serve();
    } else if (choice < 740) {
      drop(random.nextInt(60) - 3);
    } else if (choice < 742) {
      pile();
    } else if (choice < 760) {
      lookAtFile(random.nextInt(model.docCount() + 1));
    } else {
      ofProcesses();
    }
    compare("size(true)", "" + yard.size(true), "" + model.out.size());
    compare("size(false)", "" + yard.size(false), "" + model.in.size());
    compare("handles()", "" + yard.handles(), model.handles());
    compare("files()", "" + yard.files(), model.files());
  }

  private void feed(long w, int n) {
    compare("feed(" + w + ", " + n + ")", Check.answer(() -> {
      yard.feed(w, n);
      return null;
    }), model.feed(w, n));
  }

  private void serve() {
    model.lastReply = "";
    compare("serve()", Check.answer(yard::serve), model.serve());
    if (!model.lastReply.isEmpty()) {
      seen.merge("reply " + model.lastReply, 1, Integer::sum);
    }
    for (int i = -1; i <= model.out.size(); i++) {
      int k = i;
      compare("out(" + i + ")", Check.answer(() -> yard.out(k)), model.out(i));
    }
  }

  /** Fills IN and OUT to their bounds. */
  private void pile() {
    for (int i = 0; i < 50; i++) {
      byte[] frame = Bytes.frame(108, i, new byte[random.nextInt(4)]);
      for (byte b : frame) {
        feed(b, 1);
      }
      if (random.nextInt(3) == 0) {
        serve();
      }
    }
    for (int i = 0; i < 60 && model.in.size() > 0; i++) {
      drop(model.out.size());
      serve();
    }
  }

  private void drop(int n) {
    compare("drop(" + n + ")", "" + yard.drop(n), model.drop(n));
  }

  private void send(int type, int tag, Bytes body) {
    byte[] frame = Bytes.frame(type, tag, body.array());
    if (random.nextInt(400) == 0) {
      frame[random.nextInt(4)] ^= (byte) (1 << random.nextInt(8));
    }
    if (random.nextInt(60) == 0 && frame.length > 8) {
      frame = java.util.Arrays.copyOf(frame, frame.length - 1);
      frame[0]--;
    }
    for (int i = 0; i < frame.length; ) {
      int n = Math.min(1 + random.nextInt(8), frame.length - i);
      feed(Wire.word(frame, i, n), n);
      i += n;
    }
    if (random.nextInt(100) > 0) {
      serve();
    }
    if (random.nextInt(10) > 0) {
      drop(model.out.size());
    }
  }

  private long handle() {
    List<Long> numbers = model.handleNumbers();
    if (!numbers.isEmpty() && random.nextInt(20) > 0) {
      return numbers.get(random.nextInt(numbers.size()));
    }
    return newHandle();
  }

  private long openHandle(long other) {
    List<Long> numbers = model.openHandles();
    boolean any = numbers.isEmpty() || random.nextInt(4) == 0;
    return any ? other : numbers.get(random.nextInt(numbers.size()));
  }

  private long newHandle() {
    return random.nextInt(40) == 0 ? Wire.NONE : random.nextInt(12);
  }

  private String name() {
    String[] odd = {"..", "..", "..", "..", "", ".", "abcde", "A", "a.", "\0", "..."};
    if (random.nextInt(4) == 0) {
      return odd[random.nextInt(odd.length)];
    }
    return "" + (char) ('a' + random.nextInt(4)) + (random.nextInt(8) == 0 ? "bcd" : "");
  }

  private long mode() {
    long directory = random.nextBoolean() ? Wire.DIRECTORY : 0;
    return directory + (random.nextInt(3) > 0 ? 7 : random.nextInt(32));
  }

  private int way() {
    int[] ways = {0, 0, 0, 0, 0, 1, 2, 2, 16, 17, 18, random.nextInt(20), random.nextInt(256)};
    return ways[random.nextInt(ways.length)];
  }

  private long place(long handle) {
    int choice = random.nextInt(10);
    if (choice < 4) {
      return 0;
    }
    if (choice < 7) {
      return model.sumOf(handle);
    }
    return choice < 9 ? random.nextInt(30) : random.nextLong();
  }

  private void message() {
    long handle = handle();
    int choice = random.nextInt(36);
    if (model.isBegun() && random.nextInt(9) >= model.handleNumbers().size()) {
      choice = 1 + random.nextInt(12);
    }
    int tag = random.nextInt(65536);
    Bytes body = new Bytes().number(handle, 4);
    if (choice == 0) {
      unusual(tag);
    } else if (choice < 3) {
      long other = random.nextInt(10) == 0 ? random.nextInt(3) : Wire.NONE;
      send(104, tag, new Bytes().number(newHandle(), 4).number(other, 4).string(name()).string(""));
    } else if (choice < 13) {
      walk(handle, tag);
    } else if (choice < 18) {
      send(112, tag, body.number(way(), 1));
    } else if (choice < 23) {
      send(114, tag, body.string(name()).number(mode(), 4).number(way(), 1));
    } else if (choice < 27) {
      handle = openHandle(handle);
      body = new Bytes().number(handle, 4);
      long count = random.nextInt(6) == 0 ? random.nextInt() : random.nextInt(140);
      send(116, tag, body.number(place(handle), 8).number(count, 4));
    } else if (choice < 30) {
      int count = random.nextInt(10) == 0 ? random.nextInt(30) : random.nextInt(12);
      handle = openHandle(handle);
      body = new Bytes().number(handle, 4);
      body.number(place(handle), 8).number(count, 4);
      for (int i = 0; i < count; i++) {
        body.number(random.nextInt(256), 1);
      }
      send(118, tag, body);
    } else if (choice < 33) {
      send(120, tag, body);
    } else if (choice < 34) {
      send(122, tag, body);
    } else {
      send(124, tag, body);
    }
  }

  private void unusual(int tag) {
    int choice = random.nextInt(4);
    if (choice == 0) {
      String dialect = random.nextInt(4) == 0 ? "9P20" : "9P2000.u";
      long most = random.nextInt(5) == 0 ? random.nextInt() : 50 + random.nextInt(130);
      int due = random.nextInt(5) == 0 ? tag : 65535;
      send(100, due, new Bytes().number(most, 4).string(dialect));
    } else if (choice == 1) {
      send(108, tag, new Bytes().number(tag, 2));
    } else {
      int type = random.nextBoolean() ? random.nextInt(256) : 100 + 2 * random.nextInt(13);
      byte[] body = new byte[random.nextInt(24)];
      random.nextBytes(body);
      send(type, tag, new Bytes().raw(body));
    }
  }

  private void walk(long handle, int tag) {
    int k = random.nextInt(30) == 0 ? 5 : random.nextInt(4);
    long fresh = random.nextInt(3) == 0 ? handle : newHandle();
    Bytes body = new Bytes().number(handle, 4).number(fresh, 4).number(k, 2);
    for (int i = 0; i < k; i++) {
      body.string(name());
    }
    send(110, tag, body);
  }

  /** A new file in the root, so that there come to be many. */
  private void plant() {
    send(104, 1, new Bytes().number(100, 4).number(Wire.NONE, 4).string("").string(""));
    String name = "" + (char) ('a' + random.nextInt(26)) + (char) ('a' + random.nextInt(5));
    send(114, 2, new Bytes().number(100, 4).string(name).number(mode(), 4).number(0, 1));
    send(120, 3, new Bytes().number(100, 4));
  }

  private void ofProcesses() {
    int process = random.nextInt(25) == 0 ? random.nextInt(8) - 2 : random.nextInt(4);
    int choice = random.nextInt(20);
    if (choice < 7) {
      if (random.nextInt(3) > 0) {
        yard.clear();
        compare("clear()", "null", model.clear());
      }
      type();
    }
    if (choice < 10) {
      compare("look(" + process + ")", Check.answer(() -> yard.look(process)), model.look(process));
      for (int i = -1; i < 5; i++) {
        int k = i;
        compare("member(" + process + ", " + i + ")", Check.answer(() -> yard.member(process, k)),
            model.member(process, i));
      }
    } else if (choice < 16) {
      int how = random.nextInt(20) == 0 ? random.nextInt(6) - 1 : random.nextInt(3);
      compare("bind(" + process + ", " + how + ")", Check.answer(() -> yard.bind(process, how)),
          model.bind(process, how));
    } else if (choice < 18) {
      compare("unbind(" + process + ")", Check.answer(() -> yard.unbind(process)),
          model.unbind(process));
    } else {
      int to = random.nextInt(4);
      boolean share = random.nextBoolean();
      compare("fork(" + process + ", " + to + ", " + share + ")",
          "" + yard.fork(process, to, share), model.fork(process, to, share));
    }
  }

  private void type() {
    StringBuilder text = new StringBuilder();
    if (random.nextInt(3) > 0) {
      text.append(path()).append(random.nextInt(4) == 0 ? "" : " ").append(path());
    } else {
      String[] parts = {"a", "b", "c", "d", "a", "b", "/", "/", "/", " ", "/..", ".", "bcd", " "};
      for (int i = 0; i < 7; i++) {
        text.append(parts[random.nextInt(parts.length)]);
      }
    }
    byte[] bytes = new Bytes().raw(text.toString()).array();
    for (int i = 0; i < bytes.length; ) {
      int n = Math.min(1 + random.nextInt(8), bytes.length - i);
      long word = random.nextInt(200) == 0 ? random.nextLong() : Wire.word(bytes, i, n);
      int count = random.nextInt(200) == 0 ? random.nextInt(12) - 2 : n;
      compare("type(" + word + ", " + count + ")", "" + yard.type(word, count),
          model.type(word, count));
      i += n;
    }
  }

  /** A way to one of the files, sometimes with more in it than it needs. */
  private String path() {
    String path = model.pathOf(random.nextInt(model.docCount()));
    String[] more = {"", "", "", "/", "/.", "/..", "/a/..", "/b", "/ /..", "/.../.."};
    return path + (random.nextInt(3) == 0 ? more[random.nextInt(more.length)] : "");
  }
}
