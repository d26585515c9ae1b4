import java.math.BigInteger;
import java.util.ArrayList;
import java.util.LinkedHashMap;
import java.util.List;
import java.util.Map;
import java.util.TreeMap;

/**
 * The document once more, in plain objects of the Java library and in another way than the program
 * has it, so that both can be compared. Every call answers as Check.answer tells it.
 */
final class Model {
  private static final long NO_HANDLE = 4294967295L;

  /** An error in a message: one letter. */
  private static final class Refusal extends Exception {
    private static final long serialVersionUID = 1;
    final char letter;

    Refusal(char letter) {
      this.letter = letter;
    }
  }

  private static final class Doc {
    int id;
    Doc up;
    String name = "";
    boolean dir;
    boolean gone;
    boolean mayRead;
    boolean mayWrite;
    boolean mayPass;
    int version;
    List<Integer> data = new ArrayList<>();

    int bits() {
      return (mayRead ? 4 : 0) + (mayWrite ? 2 : 0) + (mayPass ? 1 : 0);
    }
  }

  private static final class Grip {
    Doc at;
    boolean opened;
    boolean reads;
    boolean writes;
    BigInteger sum = BigInteger.ZERO;
    int lastId = -1;

    Grip(Doc at) {
      this.at = at;
    }
  }

  /** Takes a body apart; a body that ends too early has the wrong form. */
  private static final class Cursor {
    final List<Integer> bytes;
    int place = 0;

    Cursor(List<Integer> bytes) {
      this.bytes = bytes;
    }

    int next() throws Refusal {
      if (place >= bytes.size()) {
        throw new Refusal('f');
      }
      return bytes.get(place++);
    }

    BigInteger big(int width) throws Refusal {
      BigInteger sum = BigInteger.ZERO;
      for (int i = 0; i < width; i++) {
        sum = sum.add(BigInteger.valueOf(next()).shiftLeft(8 * i));
      }
      return sum;
    }

    long number(int width) throws Refusal {
      return big(width).longValueExact();
    }

    String string() throws Refusal {
      return chars(number(2));
    }

    String chars(long n) throws Refusal {
      StringBuilder text = new StringBuilder();
      for (long i = 0; i < n; i++) {
        text.append((char) next());
      }
      return text.toString();
    }

    void end() throws Refusal {
      if (place != bytes.size()) {
        throw new Refusal('f');
      }
    }
  }

  final List<Integer> in = new ArrayList<>();
  final List<Integer> out = new ArrayList<>();
  private final List<Doc> docs = new ArrayList<>();
  final Map<Long, Grip> grips = new TreeMap<>();
  private boolean begun = false;
  private long most = 160;
  private String text = "";
  private final List<Map<Integer, List<Integer>>> tables = new ArrayList<>();
  /** What the last frame was answered, for those who count what was tried. */
  String lastReply = "";

  Model() {
    Doc root = new Doc();
    root.up = root;
    root.dir = true;
    root.mayRead = true;
    root.mayWrite = true;
    root.mayPass = true;
    docs.add(root);
    for (int i = 0; i < 4; i++) {
      tables.add(new LinkedHashMap<>());
    }
  }

  String feed(long w, int n) {
    if (n < 1 || n > 8) {
      return "throws.IllegalArgumentException";
    }
    if (in.size() + n > 320) {
      return "throws.UnsupportedOperationException";
    }
    for (int i = 0; i < n; i++) {
      in.add((int) (w >> 8 * i & 255));
    }
    return "null";
  }

  String serve() {
    if (out.size() > 240) {
      return "throws.UnsupportedOperationException";
    }
    if (in.size() < 4) {
      return "throws.NoSuchElementException";
    }
    long size = in.get(0) + in.get(1) * 256L + in.get(2) * 65536L + in.get(3) * 16777216L;
    if (size < 7 || size > most) {
      in.clear();
      grips.clear();
      begun = false;
      most = 160;
      lastReply = "break";
      return "0";
    }
    if (in.size() < size) {
      return "throws.NoSuchElementException";
    }
    List<Integer> frame = new ArrayList<>(in.subList(0, (int) size));
    in.subList(0, (int) size).clear();
    int type = frame.get(4);
    int tag = frame.get(5) + 256 * frame.get(6);
    List<Integer> body = new ArrayList<>();
    int answer = type + 1;
    try {
      reply(type, tag, new Cursor(frame.subList(7, frame.size())), body);
      lastReply = type + " fine";
    } catch (Refusal refusal) {
      body.clear();
      putString(body, "" + refusal.letter);
      answer = 107;
      lastReply = type + " " + refusal.letter;
    }
    put(out, 7 + body.size(), 4);
    put(out, answer, 1);
    put(out, tag, 2);
    out.addAll(body);
    return "" + answer;
  }

  private static void put(List<Integer> row, long value, int width) {
    for (int i = 0; i < width; i++) {
      row.add((int) (value >> 8 * i & 255));
    }
  }

  private static void putString(List<Integer> row, String string) {
    put(row, string.length(), 2);
    for (char c : string.toCharArray()) {
      row.add((int) c);
    }
  }

  private static void putQid(List<Integer> row, Doc doc) {
    put(row, doc.dir ? 128 : 0, 1);
    put(row, doc.version, 4);
    put(row, doc.id, 8);
  }

  private static void putStat(List<Integer> row, Doc doc) {
    List<Integer> inner = new ArrayList<>();
    putQid(inner, doc);
    put(inner, (doc.dir ? 1L << 31 : 0) + doc.bits(), 4);
    put(inner, doc.data.size(), 8);
    putString(inner, doc.name);
    put(row, inner.size(), 2);
    row.addAll(inner);
  }

  private void need(boolean good, char letter) throws Refusal {
    if (!good) {
      throw new Refusal(letter);
    }
  }

  private Grip grip(long number) throws Refusal {
    need(begun, 'v');
    need(grips.containsKey(number), 'h');
    return grips.get(number);
  }

  private List<Doc> children(Doc doc) {
    List<Doc> found = new ArrayList<>();
    for (Doc other : docs) {
      if (other.up == doc && !other.gone) {
        found.add(other);
      }
    }
    return found;
  }

  private Doc child(Doc doc, String name) {
    for (Doc other : children(doc)) {
      if (!other.name.isEmpty() && other.name.equals(name)) {
        return other;
      }
    }
    return null;
  }

  private void reply(int type, int tag, Cursor c, List<Integer> body) throws Refusal {
    switch (type) {
      case 100 -> begin(tag, c, body);
      case 104 -> attach(c, body);
      case 108 -> {
        c.number(2);
        c.end();
        need(begun, 'v');
      }
      case 110 -> walk(c, body);
      case 112 -> open(c, body);
      case 114 -> create(c, body);
      case 116 -> read(c, body);
      case 118 -> write(c, body);
      case 120, 122, 124 -> {
        long handle = c.number(4);
        c.end();
        Grip grip = grip(handle);
        if (type == 124) {
          need(!grip.at.gone, 'g');
          putStat(body, grip.at);
        } else {
          grips.remove(handle);
        }
        if (type == 122) {
          remove(grip.at);
        }
      }
      default -> throw new Refusal('f');
    }
  }

  private void begin(int tag, Cursor c, List<Integer> body) throws Refusal {
    long m = c.number(4);
    String dialect = c.string();
    c.end();
    need(tag == 65535, 'f');
    need(m >= 64, 'l');
    most = Math.min(160, m);
    grips.clear();
    begun = dialect.startsWith("9P2000");
    put(body, most, 4);
    putString(body, begun ? "9P2000" : "unknown");
  }

  private void attach(Cursor c, List<Integer> body) throws Refusal {
    long handle = c.number(4);
    long other = c.number(4);
    c.string();
    c.string();
    c.end();
    need(begun, 'v');
    need(other == NO_HANDLE, 'a');
    need(handle != NO_HANDLE && !grips.containsKey(handle), 'h');
    need(grips.size() < 8, 'l');
    grips.put(handle, new Grip(docs.get(0)));
    putQid(body, docs.get(0));
  }

  private void walk(Cursor c, List<Integer> body) throws Refusal {
    long from = c.number(4);
    long to = c.number(4);
    long k = c.number(2);
    need(k <= 4, 'f');
    List<String> names = new ArrayList<>();
    for (int i = 0; i < k; i++) {
      names.add(c.string());
    }
    c.end();
    Grip grip = grip(from);
    need(!grip.opened, 'o');
    if (to != from) {
      need(to != NO_HANDLE && !grips.containsKey(to), 'h');
      need(grips.size() < 8, 'l');
    }
    need(!grip.at.gone, 'g');
    List<Doc> come = new ArrayList<>();
    Doc here = grip.at;
    try {
      for (String name : names) {
        here = step(here, name);
        come.add(here);
      }
    } catch (Refusal refusal) {
      if (come.isEmpty()) {
        throw refusal;
      }
    }
    put(body, come.size(), 2);
    for (Doc doc : come) {
      putQid(body, doc);
    }
    if (come.size() == names.size()) {
      grips.put(to, new Grip(here));
    }
  }

  private Doc step(Doc here, String name) throws Refusal {
    if (name.equals("..")) {
      return here.up;
    }
    need(here.dir, 'd');
    need(here.mayPass, 'm');
    Doc next = child(here, name);
    need(next != null, 'n');
    return next;
  }

  private static boolean isWay(int way) {
    return List.of(0, 1, 2, 16, 17, 18).contains(way);
  }

  private void openAs(Grip grip, int way, List<Integer> body) {
    grip.opened = true;
    grip.reads = way == 0 || way == 2 || way == 16 || way == 18;
    grip.writes = way == 1 || way == 2 || way == 17 || way == 18;
    grip.sum = BigInteger.ZERO;
    grip.lastId = -1;
    putQid(body, grip.at);
    put(body, most - 24, 4);
  }

  private void open(Cursor c, List<Integer> body) throws Refusal {
    long handle = c.number(4);
    int way = c.next();
    c.end();
    Grip grip = grip(handle);
    Doc doc = grip.at;
    need(!grip.opened, 'o');
    need(isWay(way), 'm');
    need(!doc.gone, 'g');
    need(!doc.dir || way == 0, 'd');
    boolean wantsRead = way == 0 || way == 2 || way == 16 || way == 18;
    boolean wantsWrite = way != 0;
    need((!wantsRead || doc.mayRead) && (!wantsWrite || doc.mayWrite), 'm');
    if (way >= 16) {
      doc.data.clear();
      doc.version++;
    }
    openAs(grip, way, body);
  }

  private void create(Cursor c, List<Integer> body) throws Refusal {
    long handle = c.number(4);
    String name = c.string();
    long mode = c.number(4);
    int way = c.next();
    c.end();
    Grip grip = grip(handle);
    need(!grip.opened, 'o');
    need(isWay(way), 'm');
    need(!grip.at.gone, 'g');
    need(grip.at.dir, 'd');
    need(grip.at.mayWrite, 'm');
    need(name.matches("[a-z]{1,4}"), 'n');
    need(child(grip.at, name) == null, 'x');
    need(mode < 1L << 31 || way == 0, 'd');
    need(docs.size() < 40, 'l');
    Doc doc = new Doc();
    doc.id = docs.size();
    doc.up = grip.at;
    doc.name = name;
    doc.dir = mode >= 1L << 31;
    doc.mayRead = mode / 4 % 2 == 1;
    doc.mayWrite = mode / 2 % 2 == 1;
    doc.mayPass = mode % 2 == 1;
    docs.add(doc);
    grip.at.version++;
    grip.at = doc;
    openAs(grip, way, body);
  }

  private void read(Cursor c, List<Integer> body) throws Refusal {
    long handle = c.number(4);
    BigInteger place = c.big(8);
    long count = c.number(4);
    c.end();
    Grip grip = grip(handle);
    need(grip.reads, 'o');
    need(!grip.at.gone, 'g');
    count = Math.min(count, most - 11);
    List<Integer> told = grip.at.dir ? stats(grip, place, count) : new ArrayList<>();
    if (!grip.at.dir) {
      for (int i = 0; i < grip.at.data.size(); i++) {
        if (BigInteger.valueOf(i).compareTo(place) >= 0 && told.size() < count) {
          told.add(grip.at.data.get(i));
        }
      }
    }
    put(body, told.size(), 4);
    body.addAll(told);
  }

  private List<Integer> stats(Grip grip, BigInteger place, long count) throws Refusal {
    boolean again = place.signum() == 0;
    need(again || place.equals(grip.sum), 'f');
    if (again) {
      grip.sum = BigInteger.ZERO;
      grip.lastId = -1;
    }
    List<Integer> told = new ArrayList<>();
    for (Doc doc : children(grip.at)) {
      List<Integer> one = new ArrayList<>();
      putStat(one, doc);
      if (doc.id > grip.lastId) {
        if (told.size() + one.size() > count) {
          break;
        }
        told.addAll(one);
        grip.lastId = doc.id;
      }
    }
    grip.sum = grip.sum.add(BigInteger.valueOf(told.size()));
    return told;
  }

  private void write(Cursor c, List<Integer> body) throws Refusal {
    long handle = c.number(4);
    BigInteger place = c.big(8);
    long count = c.number(4);
    String bytes = c.chars(count);
    c.end();
    Grip grip = grip(handle);
    need(grip.writes, 'o');
    need(!grip.at.gone, 'g');
    need(place.add(BigInteger.valueOf(count)).compareTo(BigInteger.valueOf(24)) <= 0, 'l');
    List<Integer> data = grip.at.data;
    for (int i = 0; i < count; i++) {
      int target = place.intValueExact() + i;
      while (data.size() <= target) {
        data.add(0);
      }
      data.set(target, (int) bytes.charAt(i));
    }
    grip.at.version++;
    put(body, count, 4);
  }

  private void remove(Doc doc) throws Refusal {
    need(!doc.gone, 'g');
    need(doc.id != 0 && doc.up.mayWrite, 'm');
    need(children(doc).isEmpty(), 'b');
    doc.gone = true;
    doc.up.version++;
  }

  String out(int i) {
    return i < 0 || i >= out.size() ? "throws.IndexOutOfBoundsException" : "" + out.get(i);
  }

  String drop(int n) {
    if (n < 0 || n > out.size()) {
      return "false";
    }
    out.subList(0, n).clear();
    return "true";
  }

  String handles() {
    return "" + grips.size();
  }

  String files() {
    return "" + docs.size();
  }

  String about(int file, int part) {
    if (file < 0 || file >= docs.size() || part < 0 || part > 4) {
      return "throws.IndexOutOfBoundsException";
    }
    Doc doc = docs.get(file);
    List<Integer> parts = List.of(doc.up.id, doc.version, doc.data.size(),
        doc.bits() + (doc.dir ? 8 : 0), doc.gone ? 1 : 0);
    return "" + parts.get(part);
  }

  String data(int file, int i) {
    if (file < 0 || file >= docs.size() || i < 0 || i >= docs.get(file).data.size()) {
      return "throws.IndexOutOfBoundsException";
    }
    return "" + docs.get(file).data.get(i);
  }

  String type(long w, int n) {
    if (n < 1 || n > 8) {
      return "false";
    }
    StringBuilder more = new StringBuilder();
    for (int i = 0; i < n; i++) {
      more.append((char) (w >> 8 * i & 255));
    }
    if (text.length() + n > 60 || !more.toString().matches("[a-z./ ]*")) {
      return "false";
    }
    text += more;
    return "true";
  }

  String clear() {
    text = "";
    return "null";
  }

  private boolean noProcess(int process) {
    return process < 0 || process > 3;
  }

  private List<Integer> union(int process, int file) {
    List<Integer> all = tables.get(process).getOrDefault(file, List.of(file));
    List<Integer> left = new ArrayList<>();
    for (int one : all) {
      if (!docs.get(one).gone) {
        left.add(one);
      }
    }
    return left;
  }

  private String path(boolean first) {
    int space = text.indexOf(' ');
    if (space < 0) {
      return first ? text : "";
    }
    return first ? text.substring(0, space) : text.substring(space + 1);
  }

  /** The file that is come to last on a path, or null. */
  private Integer lastOn(int process, String path) {
    List<String> pieces = new ArrayList<>();
    for (String piece : path.split("/")) {
      if (piece.equals("..")) {
        if (!pieces.isEmpty()) {
          pieces.remove(pieces.size() - 1);
        }
      } else if (!piece.isEmpty() && !piece.equals(".")) {
        pieces.add(piece);
      }
    }
    Integer last = 0;
    for (String piece : pieces) {
      Integer next = null;
      for (int one : union(process, last)) {
        Doc doc = docs.get(one);
        if (next == null && doc.dir && child(doc, piece) != null) {
          next = child(doc, piece).id;
        }
      }
      if (next == null) {
        return null;
      }
      last = next;
    }
    return last;
  }

  String look(int process) {
    if (noProcess(process)) {
      return "throws.IllegalArgumentException";
    }
    Integer last = lastOn(process, path(true));
    if (last == null || union(process, last).isEmpty()) {
      return "throws.NoSuchElementException";
    }
    return "" + union(process, last).get(0);
  }

  String member(int process, int k) {
    if (noProcess(process)) {
      return "throws.IllegalArgumentException";
    }
    Integer last = lastOn(process, path(true));
    if (last == null) {
      return "throws.NoSuchElementException";
    }
    List<Integer> all = union(process, last);
    return k < 0 || k >= all.size() ? "throws.IndexOutOfBoundsException" : "" + all.get(k);
  }

  String bind(int process, int how) {
    if (noProcess(process) || how < 0 || how > 2) {
      return "throws.IllegalArgumentException";
    }
    Integer lastA = lastOn(process, path(true));
    Integer b = lastOn(process, path(false));
    if (lastA == null || b == null || union(process, lastA).isEmpty()) {
      return "throws.NoSuchElementException";
    }
    List<Integer> a = union(process, lastA);
    int directories = docs.get(b).dir ? 1 : 0;
    for (int one : a) {
      directories += docs.get(one).dir ? 1 : 0;
    }
    boolean allPlain = how == 0 && directories == 0;
    if (directories != a.size() + 1 && !allPlain) {
      return "throws.IllegalStateException";
    }
    List<Integer> whole = new ArrayList<>(a);
    if (how > 0) {
      whole.addAll(how == 1 ? a.size() : 0, union(process, b));
    }
    Map<Integer, List<Integer>> table = tables.get(process);
    if (whole.size() > 4 || !table.containsKey(b) && table.size() == 4) {
      return "throws.UnsupportedOperationException";
    }
    table.put(b, whole);
    return "" + whole.size();
  }

  String unbind(int process) {
    if (noProcess(process)) {
      return "throws.IllegalArgumentException";
    }
    Integer last = lastOn(process, path(true));
    if (last == null || !tables.get(process).containsKey(last)) {
      return "throws.NoSuchElementException";
    }
    tables.get(process).remove(last);
    return "" + tables.get(process).size();
  }

  String fork(int from, int to, boolean share) {
    if (noProcess(from) || noProcess(to) || from == to) {
      return "false";
    }
    Map<Integer, List<Integer>> table = tables.get(from);
    tables.set(to, share ? table : new LinkedHashMap<>(table));
    return "true";
  }

  boolean isBegun() {
    return begun;
  }

  /** The names from the root to a file. */
  String pathOf(int id) {
    StringBuilder path = new StringBuilder();
    for (Doc doc = docs.get(id); doc.id != 0; doc = doc.up) {
      path.insert(0, "/" + doc.name);
    }
    return path.toString();
  }

  int docCount() {
    return docs.size();
  }

  List<Long> handleNumbers() {
    return new ArrayList<>(grips.keySet());
  }

  List<Long> openHandles() {
    List<Long> numbers = handleNumbers();
    numbers.removeIf(number -> !grips.get(number).opened);
    return numbers;
  }

  /** The sum that a handle's directory must be read on at. */
  long sumOf(long handle) {
    return grips.containsKey(handle) ? grips.get(handle).sum.longValueExact() : 0;
  }
}
