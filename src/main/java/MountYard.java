import java.util.NoSuchElementException;

/**
 * A tree of files that is served by messages of bytes, and beside it processes, each with a table
 * of its own through which names are looked up. DOC.md says what every call promises.
 */
public final class MountYard {

  public static final int NONE = -1;

  private static final int ROOT = 0;
  private static final int MOST_FILES = 40;
  private static final int MOST_CONTENT = 24;
  private static final int MOST_HANDLES = 8;

  private static final int MOST_IN = 320;
  private static final int MOST_OUT_BEFORE_SERVING = 240;
  private static final int MOST_FRAME = 160;
  private static final int LEAST_LIMIT = 64;
  private static final int FRAME_HEAD = 7;
  private static final int WORD_BYTES = 8;

  private static final int MOST_TEXT = 60;
  private static final int PROCESSES = 4;
  private static final int MOST_KEYS = 4;
  private static final int MOST_LISTED = 4;

  private static final int MAY_BE_READ = 4;
  private static final int MAY_BE_WRITTEN = 2;
  private static final int MAY_BE_GONE_THROUGH = 1;
  private static final int ALL_RIGHTS = 7;
  private static final long DIRECTORY_BIT = 0x80000000L;

  /** Words of up to four signs are kept as one number, the first sign lowest. */
  private static final int NO_WORD = 0;
  private static final int POINT = 0x2e;
  private static final int UPWARDS = 0x2e2e;
  private static final int MOST_LETTERS = 4;

  private static final int BEGIN = 100;
  private static final int ATTACH = 104;
  private static final int ERROR = 107;
  private static final int FLUSH = 108;
  private static final int WALK = 110;
  private static final int OPEN = 112;
  private static final int CREATE = 114;
  private static final int READ = 116;
  private static final int WRITE = 118;
  private static final int CLOSE = 120;
  private static final int REMOVE = 122;
  private static final int STAT = 124;

  private static final int TAG_OF_BEGIN = 65535;
  private static final int MOST_STEPS = 4;
  private static final String DIALECT = "9P2000";
  private static final String NO_DIALECT = "unknown";

  private static final char FINE = 0;
  private static final char BAD_FORM = 'f';
  private static final char NOT_BEGUN = 'v';
  private static final char WRONG_HANDLE = 'h';
  private static final char IS_GONE = 'g';
  private static final char OVER_LIMIT = 'l';
  private static final char WANTS_OTHER_HANDLE = 'a';
  private static final char WRONG_OPENNESS = 'o';
  private static final char WRONG_KIND = 'd';
  private static final char NOT_ALLOWED = 'm';
  private static final char NO_SUCH_NAME = 'n';
  private static final char NAME_IS_TAKEN = 'x';
  private static final char HAS_CHILDREN = 'b';

  private final ByteRow incoming;
  private final ByteRow outgoing;
  private final ByteRow text;
  private final Tree tree;
  private final Talk talk;
  private final Processes processes;

  public MountYard() {
    incoming = new ByteRow(MOST_IN);
    outgoing = new ByteRow(MOST_OUT_BEFORE_SERVING + MOST_FRAME);
    text = new ByteRow(MOST_TEXT);
    tree = new Tree();
    talk = new Talk(tree);
    processes = new Processes(tree);
  }

  public void feed(long w, int n) throws IllegalArgumentException, UnsupportedOperationException {
    if (n < 1 || n > WORD_BYTES) {
      throw new IllegalArgumentException();
    }
    if (incoming.count() + n > MOST_IN) {
      throw new UnsupportedOperationException();
    }
    incoming.putNumber(w, n);
  }

  public int serve() throws UnsupportedOperationException, NoSuchElementException {
    if (outgoing.count() > MOST_OUT_BEFORE_SERVING) {
      throw new UnsupportedOperationException();
    }
    if (incoming.count() < 4) {
      throw new NoSuchElementException();
    }
    long told = incoming.number(0, 4);
    if (!talk.admits(told)) {
      incoming.empty();
      talk.breakOff();
      return 0;
    }
    if (incoming.count() < told) {
      throw new NoSuchElementException();
    }
    talk.takeFrame(incoming, (int) told);
    char fault = talk.reply();
    return talk.putReply(fault, outgoing);
  }

  public int size(boolean out) {
    return out ? outgoing.count() : incoming.count();
  }

  public int out(int i) throws IndexOutOfBoundsException {
    if (!outgoing.has(i)) {
      throw new IndexOutOfBoundsException();
    }
    return outgoing.at(i);
  }

  public boolean drop(int n) {
    if (n < 0 || n > outgoing.count()) {
      return false;
    }
    outgoing.cutFront(n);
    return true;
  }

  public int handles() {
    return talk.handleCount();
  }

  public int about(int file, int part) throws IndexOutOfBoundsException {
    if (!tree.has(file)) {
      throw new IndexOutOfBoundsException();
    }
    Node node = tree.node(file);
    switch (part) {
      case 0:
        return node.parent;
      case 1:
        return node.version;
      case 2:
        return node.content.count();
      case 3:
        return node.rights + (node.directory ? 8 : 0);
      case 4:
        return node.gone ? 1 : 0;
      default:
        throw new IndexOutOfBoundsException();
    }
  }

  public int data(int file, int i) throws IndexOutOfBoundsException {
    if (!tree.has(file) || !tree.node(file).content.has(i)) {
      throw new IndexOutOfBoundsException();
    }
    return tree.node(file).content.at(i);
  }

  public int files() {
    return tree.made();
  }

  public boolean type(long w, int n) {
    if (n < 1 || n > WORD_BYTES || text.count() + n > MOST_TEXT || !areTextSigns(w, n)) {
      return false;
    }
    text.putNumber(w, n);
    return true;
  }

  public void clear() {
    text.empty();
  }

  public int look(int process) throws IllegalArgumentException, NoSuchElementException {
    if (!processes.has(process)) {
      throw new IllegalArgumentException();
    }
    Route route = processes.routeA(process, text);
    if (!route.found() || route.list.count() == 0) {
      throw new NoSuchElementException();
    }
    return route.list.at(0);
  }

  public int member(int process, int k)
      throws IllegalArgumentException, NoSuchElementException, IndexOutOfBoundsException {
    if (!processes.has(process)) {
      throw new IllegalArgumentException();
    }
    Route route = processes.routeA(process, text);
    if (!route.found()) {
      throw new NoSuchElementException();
    }
    if (!route.list.has(k)) {
      throw new IndexOutOfBoundsException();
    }
    return route.list.at(k);
  }

  public int bind(int process, int how)
      throws IllegalArgumentException, NoSuchElementException, IllegalStateException,
          UnsupportedOperationException {
    if (!processes.has(process) || how < 0 || how > 2) {
      throw new IllegalArgumentException();
    }
    Route a = processes.routeA(process, text);
    Route b = processes.routeB(process, text);
    if (!a.found() || !b.found() || a.list.count() == 0) {
      throw new NoSuchElementException();
    }
    if (!processes.kindsFit(a.list, b.last(), how)) {
      throw new IllegalStateException();
    }
    FileList joined = processes.joined(process, a.list, b.last(), how);
    if (joined.count() > MOST_LISTED || !processes.mayBeKey(process, b.last())) {
      throw new UnsupportedOperationException();
    }
    processes.setList(process, b.last(), joined);
    return joined.count();
  }

  public int unbind(int process) throws IllegalArgumentException, NoSuchElementException {
    if (!processes.has(process)) {
      throw new IllegalArgumentException();
    }
    Route route = processes.routeA(process, text);
    if (!route.found() || !processes.isKey(process, route.last())) {
      throw new NoSuchElementException();
    }
    return processes.removeKey(process, route.last());
  }

  public boolean fork(int from, int to, boolean share) {
    if (!processes.has(from) || !processes.has(to) || from == to) {
      return false;
    }
    if (share) {
      processes.shareTable(from, to);
    } else {
      processes.copyTable(from, to);
    }
    return true;
  }

  private static boolean areTextSigns(long w, int n) {
    for (int i = 0; i < n && i < WORD_BYTES; i++) {
      int sign = (int) (w >>> (8 * i)) & 255;
      boolean letter = sign >= 'a' && sign <= 'z';
      if (!letter && sign != '.' && sign != '/' && sign != ' ') {
        return false;
      }
    }
    return true;
  }

  private static boolean isName(int word) {
    for (int i = 0; i < MOST_LETTERS; i++) {
      int sign = word >>> (8 * i) & 255;
      boolean behindTheEnd = i > 0 && sign == 0;
      if (!behindTheEnd && (sign < 'a' || sign > 'z')) {
        return false;
      }
    }
    return true;
  }

  /** Bytes behind one another, up to a bound that is set when the row is made. */
  private static final class ByteRow {
    private final byte[] bytes;
    private int count;

    ByteRow(int most) {
      bytes = new byte[most];
      count = 0;
    }

    int count() {
      return count;
    }

    boolean has(int i) {
      return i >= 0 && i < count;
    }

    int at(int i) {
      return i >= 0 && i < count ? bytes[i] & 255 : 0;
    }

    void empty() {
      count = 0;
    }

    void put(int value) {
      if (count < bytes.length) {
        bytes[count] = (byte) value;
        count++;
      }
    }

    void set(int i, int value) {
      if (i >= 0 && i < count) {
        bytes[i] = (byte) value;
      }
    }

    void putNumber(long value, int width) {
      for (int i = 0; i < width && i < WORD_BYTES && count < bytes.length; i++) {
        bytes[count] = (byte) (value >>> (8 * i));
        count++;
      }
    }

    long number(int place, int width) {
      long value = 0;
      for (int i = 0; i < width && i < WORD_BYTES; i++) {
        int at = place + i;
        if (at >= 0 && at < count) {
          value |= (bytes[at] & 255L) << (8 * i);
        }
      }
      return value;
    }

    void putString(String word) {
      putNumber(word.length(), 2);
      for (int i = 0; i < word.length(); i++) {
        put(word.charAt(i));
      }
    }

    void putPart(ByteRow other, int from, int n) {
      for (int i = 0; i < n; i++) {
        put(other.at(from + i));
      }
    }

    void cutFront(int n) {
      if (n > 0 && n <= count) {
        System.arraycopy(bytes, n, bytes, 0, count - n);
        count -= n;
      }
    }

    boolean beginsWith(int place, int n, String word) {
      if (n < word.length()) {
        return false;
      }
      for (int i = 0; i < word.length(); i++) {
        if (at(place + i) != word.charAt(i)) {
          return false;
        }
      }
      return true;
    }

    /** The word that n bytes from a place on are; NO_WORD if they could be no name, nor points. */
    int word(int place, int n) {
      if (n < 1 || n > MOST_LETTERS) {
        return NO_WORD;
      }
      int word = 0;
      for (int i = 0; i < n; i++) {
        int sign = at(place + i);
        if (sign == 0) {
          return NO_WORD;
        }
        word |= sign << (8 * i);
      }
      return word;
    }
  }

  /** One file; all that can ever be made are there from the beginning, to be filled in. */
  private static final class Node {
    final int number;
    final ByteRow content;
    int parent;
    int name;
    int rights;
    int version;
    boolean directory;
    boolean gone;

    Node(int number) {
      this.number = number;
      content = new ByteRow(MOST_CONTENT);
      parent = ROOT;
      name = NO_WORD;
    }

    boolean allows(int wanted) {
      return (rights & wanted) == wanted;
    }

    int nameLength() {
      int length = 0;
      for (int i = 0; i < MOST_LETTERS; i++) {
        if (name >>> (8 * i) != 0) {
          length++;
        }
      }
      return length;
    }

    int bytesOfStat() {
      return 29 + nameLength();
    }

    void putQid(ByteRow row) {
      row.put(directory ? 128 : 0);
      row.putNumber(version, 4);
      row.putNumber(number, 8);
    }

    void putStat(ByteRow row) {
      row.putNumber(bytesOfStat() - 2, 2);
      putQid(row);
      row.putNumber((directory ? DIRECTORY_BIT : 0) + rights, 4);
      row.putNumber(content.count(), 8);
      row.putNumber(nameLength(), 2);
      row.putNumber(name, nameLength());
    }

    void takeContentAway() {
      content.empty();
      version++;
    }

    void write(int place, ByteRow source, int from, int n) {
      if (n > 0) {
        for (int i = content.count(); i < place; i++) {
          content.put(0);
        }
      }
      for (int i = 0; i < n; i++) {
        if (place + i < content.count()) {
          content.set(place + i, source.at(from + i));
        } else {
          content.put(source.at(from + i));
        }
      }
      version++;
    }
  }

  /** All files by their numbers. */
  private static final class Tree {
    private final Node[] nodes;
    private int made;

    Tree() {
      nodes = new Node[MOST_FILES];
      for (int i = 0; i < nodes.length; i++) {
        nodes[i] = new Node(i);
      }
      nodes[ROOT].directory = true;
      nodes[ROOT].rights = ALL_RIGHTS;
      made = 1;
    }

    int made() {
      return made;
    }

    boolean isFull() {
      return made >= MOST_FILES;
    }

    boolean has(int file) {
      return file >= 0 && file < made;
    }

    Node node(int file) {
      return file >= 0 && file < made ? nodes[file] : nodes[ROOT];
    }

    /** The root has itself as parent, so by the document's words it is a child of itself. */
    boolean isChild(int file, int directory) {
      return file >= 0
          && file < made
          && nodes[file].parent == directory
          && !nodes[file].gone;
    }

    boolean hasChildren(int directory) {
      for (int i = 0; i < made; i++) {
        if (isChild(i, directory)) {
          return true;
        }
      }
      return false;
    }

    /** The child of a directory that has a word as its name, or NONE; the root has no name. */
    int childNamed(int directory, int word) {
      for (int i = ROOT + 1; i < made; i++) {
        if (isChild(i, directory) && nodes[i].name == word) {
          return i;
        }
      }
      return NONE;
    }

    int add(int parent, int name, boolean directory, int rights) {
      if (isFull()) {
        return NONE;
      }
      Node fresh = nodes[made];
      fresh.parent = parent;
      fresh.name = name;
      fresh.directory = directory;
      fresh.rights = rights;
      node(parent).version++;
      made++;
      return fresh.number;
    }

    void remove(int file) {
      Node node = node(file);
      node.gone = true;
      node(node.parent).version++;
    }
  }

  /** One frame that came, and the fields of its body. */
  private static final class Frame {
    private final ByteRow row;

    Frame() {
      row = new ByteRow(MOST_FRAME);
    }

    void takeFrom(ByteRow source, int n) {
      row.empty();
      row.putPart(source, 0, n);
      source.cutFront(n);
    }

    int kind() {
      return row.at(4);
    }

    int tag() {
      return (int) row.number(5, 2);
    }

    int bodyBytes() {
      return row.count() - FRAME_HEAD;
    }

    long number(int place, int width) {
      return row.number(FRAME_HEAD + place, width);
    }

    int handleAt(int place) {
      return (int) row.number(FRAME_HEAD + place, 4);
    }

    private int stringBytes(int place) {
      return (int) row.number(FRAME_HEAD + place, 2);
    }

    int placeBehindString(int place) {
      return place + 2 + stringBytes(place);
    }

    int wordAt(int place) {
      return row.word(FRAME_HEAD + place + 2, stringBytes(place));
    }

    boolean stringBeginsWith(int place, String word) {
      return row.beginsWith(FRAME_HEAD + place + 2, stringBytes(place), word);
    }

    void copyTo(Node node, int contentPlace, int place, int n) {
      node.write(contentPlace, row, FRAME_HEAD + place, n);
    }

    /** Whether the body has just the bytes that a message of its kind must have. */
    boolean isWellFormed() {
      switch (kind()) {
        case BEGIN:
          return tag() == TAG_OF_BEGIN && endsBehindStrings(4, 1, 0);
        case ATTACH:
          return endsBehindStrings(8, 2, 0);
        case FLUSH:
          return bodyBytes() == 2;
        case WALK:
          return bodyBytes() >= 10
              && number(8, 2) <= MOST_STEPS
              && endsBehindStrings(10, (int) number(8, 2), 0);
        case OPEN:
          return bodyBytes() == 5;
        case CREATE:
          return endsBehindStrings(4, 1, 5);
        case READ:
          return bodyBytes() == 16;
        case WRITE:
          return bodyBytes() >= 16 && number(12, 4) == bodyBytes() - 16;
        case CLOSE:
        case REMOVE:
        case STAT:
          return bodyBytes() == 4;
        default:
          return false;
      }
    }

    /** Whether from a place on there are so many strings, then so many bytes, and no more. */
    private boolean endsBehindStrings(int from, int strings, int more) {
      int place = from;
      for (int i = 0; i < strings; i++) {
        if (place + 2 > bodyBytes()) {
          return false;
        }
        place = placeBehindString(place);
      }
      return place + more == bodyBytes();
    }
  }

  /** A handle; one that is not in use waits to be given a number. */
  private static final class Handle {
    boolean used;
    int number;
    int file;
    boolean reading;
    boolean writing;
    /** Of a directory: how many bytes were told since it was read from its beginning. */
    long told;
    int lastTold;

    boolean isOpen() {
      return reading || writing;
    }

    void standAt(int newFile) {
      file = newFile;
      reading = false;
      writing = false;
    }

    void openAs(int how) {
      int low = how & 15;
      reading = low != 1;
      writing = low != 0;
      startAgain();
    }

    void startAgain() {
      told = 0;
      lastTold = NONE;
    }
  }

  /** The handles that there are. */
  private static final class HandleSet {
    private final Handle[] slots;

    HandleSet() {
      slots = new Handle[MOST_HANDLES];
      for (int i = 0; i < slots.length; i++) {
        slots[i] = new Handle();
      }
    }

    int count() {
      int count = 0;
      for (int i = 0; i < slots.length; i++) {
        if (slots[i].used) {
          count++;
        }
      }
      return count;
    }

    boolean isFull() {
      return count() == MOST_HANDLES;
    }

    /** The handle with a number, or null. */
    Handle find(int number) {
      for (int i = 0; i < slots.length; i++) {
        if (slots[i].used && slots[i].number == number) {
          return slots[i];
        }
      }
      return null;
    }

    boolean isFree(int number) {
      return number != NONE && find(number) == null;
    }

    void add(int number, int file) {
      for (int i = 0; i < slots.length; i++) {
        if (!slots[i].used) {
          slots[i].used = true;
          slots[i].number = number;
          slots[i].standAt(file);
          return;
        }
      }
    }

    void removeAll() {
      for (int i = 0; i < slots.length; i++) {
        slots[i].used = false;
      }
    }
  }

  /** What answers the frames: each kind writes its reply's body, or says the letter of an error. */
  private static final class Talk {
    private final Tree tree;
    private final HandleSet held;
    private final Frame request;
    private final ByteRow body;
    private boolean begun;
    private int limit;

    Talk(Tree tree) {
      this.tree = tree;
      held = new HandleSet();
      request = new Frame();
      body = new ByteRow(MOST_FRAME);
      begun = false;
      limit = MOST_FRAME;
    }

    int handleCount() {
      return held.count();
    }

    boolean admits(long frameBytes) {
      return frameBytes >= FRAME_HEAD && frameBytes <= limit;
    }

    void breakOff() {
      held.removeAll();
      begun = false;
      limit = MOST_FRAME;
    }

    void takeFrame(ByteRow source, int frameBytes) {
      request.takeFrom(source, frameBytes);
    }

    /** Does what the frame asks for and writes the reply's body, or answers an error's letter. */
    char reply() {
      int kind = request.kind();
      body.empty();
      if (!request.isWellFormed()) {
        return BAD_FORM;
      }
      if (kind == BEGIN) {
        return begin();
      }
      if (!begun) {
        return NOT_BEGUN;
      }
      if (kind == ATTACH) {
        return attach();
      }
      if (kind == FLUSH) {
        return FINE;
      }
      Handle handle = held.find(request.handleAt(0));
      if (handle == null) {
        return WRONG_HANDLE;
      }
      switch (kind) {
        case WALK:
          return walk(handle);
        case OPEN:
          return open(handle);
        case CREATE:
          return create(handle);
        case READ:
          return read(handle);
        case WRITE:
          return write(handle);
        case CLOSE:
          handle.used = false;
          return FINE;
        case REMOVE:
          return remove(handle);
        case STAT:
          return stat(handle);
        default:
          return BAD_FORM;
      }
    }

    /** Puts the reply, or the error, behind a row and answers its type. */
    int putReply(char fault, ByteRow target) {
      int kind = request.kind() + 1;
      if (fault != FINE) {
        kind = ERROR;
        body.empty();
        body.putNumber(1, 2);
        body.put(fault);
      }
      target.putNumber(FRAME_HEAD + body.count(), 4);
      target.put(kind);
      target.putNumber(request.tag(), 2);
      target.putPart(body, 0, body.count());
      return kind;
    }

    private char begin() {
      long wanted = request.number(0, 4);
      if (wanted < LEAST_LIMIT) {
        return OVER_LIMIT;
      }
      limit = (int) Math.min(wanted, MOST_FRAME);
      held.removeAll();
      begun = request.stringBeginsWith(4, DIALECT);
      body.putNumber(limit, 4);
      body.putString(begun ? DIALECT : NO_DIALECT);
      return FINE;
    }

    private char attach() {
      int number = request.handleAt(0);
      if (request.handleAt(4) != NONE) {
        return WANTS_OTHER_HANDLE;
      }
      if (!held.isFree(number)) {
        return WRONG_HANDLE;
      }
      if (held.isFull()) {
        return OVER_LIMIT;
      }
      held.add(number, ROOT);
      tree.node(ROOT).putQid(body);
      return FINE;
    }

    private char walk(Handle handle) {
      int number = request.handleAt(4);
      boolean another = number != handle.number;
      if (handle.isOpen()) {
        return WRONG_OPENNESS;
      }
      if (another && !held.isFree(number)) {
        return WRONG_HANDLE;
      }
      if (another && held.isFull()) {
        return OVER_LIMIT;
      }
      if (tree.node(handle.file).gone) {
        return IS_GONE;
      }
      return walkSteps(handle, number);
    }

    private char walkSteps(Handle handle, int number) {
      int steps = (int) request.number(8, 2);
      int place = 10;
      int file = handle.file;
      body.putNumber(0, 2);
      for (int i = 0; i < steps; i++) {
        int word = request.wordAt(place);
        char fault = stepFault(file, word);
        if (fault != FINE) {
          return i == 0 ? fault : FINE;
        }
        file = stepFrom(file, word);
        place = request.placeBehindString(place);
        body.set(0, i + 1);
        tree.node(file).putQid(body);
      }
      if (number == handle.number) {
        handle.standAt(file);
      } else {
        held.add(number, file);
      }
      return FINE;
    }

    private char stepFault(int file, int word) {
      Node node = tree.node(file);
      if (word == UPWARDS) {
        return FINE;
      }
      if (!node.directory) {
        return WRONG_KIND;
      }
      if (!node.allows(MAY_BE_GONE_THROUGH)) {
        return NOT_ALLOWED;
      }
      return tree.childNamed(file, word) == NONE ? NO_SUCH_NAME : FINE;
    }

    private int stepFrom(int file, int word) {
      return word == UPWARDS ? tree.node(file).parent : tree.childNamed(file, word);
    }

    private char open(Handle handle) {
      int how = (int) request.number(4, 1);
      Node node = tree.node(handle.file);
      if (handle.isOpen()) {
        return WRONG_OPENNESS;
      }
      if (!isWayToOpen(how)) {
        return NOT_ALLOWED;
      }
      if (node.gone) {
        return IS_GONE;
      }
      if (node.directory && how != 0) {
        return WRONG_KIND;
      }
      if (!node.allows(rightsWanted(how))) {
        return NOT_ALLOWED;
      }
      if (how > 15) {
        node.takeContentAway();
      }
      handle.openAs(how);
      putOpened(node);
      return FINE;
    }

    private char create(Handle handle) {
      int behindName = request.placeBehindString(4);
      boolean directory = (request.number(behindName, 4) & DIRECTORY_BIT) != 0;
      int how = (int) request.number(behindName + 4, 1);
      char fault = createFault(handle, how, directory);
      if (fault != FINE) {
        return fault;
      }
      int rights = (int) request.number(behindName, 4) & ALL_RIGHTS;
      int file = tree.add(handle.file, request.wordAt(4), directory, rights);
      handle.standAt(file);
      handle.openAs(how);
      putOpened(tree.node(file));
      return FINE;
    }

    private char createFault(Handle handle, int how, boolean directory) {
      Node parent = tree.node(handle.file);
      int name = request.wordAt(4);
      if (handle.isOpen()) {
        return WRONG_OPENNESS;
      }
      if (!isWayToOpen(how)) {
        return NOT_ALLOWED;
      }
      if (parent.gone) {
        return IS_GONE;
      }
      if (!parent.directory) {
        return WRONG_KIND;
      }
      if (!parent.allows(MAY_BE_WRITTEN)) {
        return NOT_ALLOWED;
      }
      if (!isName(name)) {
        return NO_SUCH_NAME;
      }
      if (tree.childNamed(parent.number, name) != NONE) {
        return NAME_IS_TAKEN;
      }
      if (directory && how != 0) {
        return WRONG_KIND;
      }
      return tree.isFull() ? OVER_LIMIT : FINE;
    }

    private static boolean isWayToOpen(int how) {
      return how <= 2 || how >= 16 && how <= 18;
    }

    private static int rightsWanted(int how) {
      int low = how & 15;
      int wanted = low != 1 ? MAY_BE_READ : 0;
      return low != 0 || how > 15 ? wanted | MAY_BE_WRITTEN : wanted;
    }

    private void putOpened(Node node) {
      node.putQid(body);
      body.putNumber(limit - 24, 4);
    }

    private char read(Handle handle) {
      Node node = tree.node(handle.file);
      if (!handle.reading) {
        return WRONG_OPENNESS;
      }
      if (node.gone) {
        return IS_GONE;
      }
      long place = request.number(4, 8);
      int room = (int) Math.min(request.number(12, 4), limit - 11);
      return node.directory ? readDirectory(handle, place, room) : readPlain(node, place, room);
    }

    private char readPlain(Node node, long place, int room) {
      int there = node.content.count();
      int from = isAbove(place, there) ? there : (int) place;
      int n = Math.min(room, there - from);
      body.putNumber(n, 4);
      body.putPart(node.content, from, n);
      return FINE;
    }

    private char readDirectory(Handle handle, long place, int room) {
      if (place != 0 && place != handle.told) {
        return BAD_FORM;
      }
      if (place == 0) {
        handle.startAgain();
      }
      body.putNumber(0, 4);
      int n = 0;
      for (int i = handle.lastTold + 1; i < tree.made(); i++) {
        if (tree.isChild(i, handle.file)) {
          Node child = tree.node(i);
          if (n + child.bytesOfStat() > room) {
            break;
          }
          child.putStat(body);
          n += child.bytesOfStat();
          handle.lastTold = i;
        }
      }
      // A frame has no more than 160 bytes, so the count fits in the lowest of its four.
      body.set(0, n);
      handle.told += n;
      return FINE;
    }

    private char write(Handle handle) {
      Node node = tree.node(handle.file);
      if (!handle.writing) {
        return WRONG_OPENNESS;
      }
      if (node.gone) {
        return IS_GONE;
      }
      long place = request.number(4, 8);
      int n = (int) request.number(12, 4);
      if (isAbove(place, MOST_CONTENT - n)) {
        return OVER_LIMIT;
      }
      request.copyTo(node, (int) place, 16, n);
      body.putNumber(n, 4);
      return FINE;
    }

    /** Places have eight bytes without a sign: one that looks negative is a very great one. */
    private static boolean isAbove(long place, int bound) {
      return place < 0 || place > bound;
    }

    private char remove(Handle handle) {
      Node node = tree.node(handle.file);
      handle.used = false;
      if (node.gone) {
        return IS_GONE;
      }
      if (node.number == ROOT || !tree.node(node.parent).allows(MAY_BE_WRITTEN)) {
        return NOT_ALLOWED;
      }
      if (tree.hasChildren(node.number)) {
        return HAS_CHILDREN;
      }
      tree.remove(node.number);
      return FINE;
    }

    private char stat(Handle handle) {
      Node node = tree.node(handle.file);
      if (node.gone) {
        return IS_GONE;
      }
      node.putStat(body);
      return FINE;
    }
  }

  /** A row of file numbers, in which one may stand twice. */
  private static final class FileList {
    private final int[] numbers;
    private int count;

    FileList(int most) {
      numbers = new int[most];
      count = 0;
    }

    int count() {
      return count;
    }

    boolean has(int i) {
      return i >= 0 && i < count;
    }

    int at(int i) {
      return i >= 0 && i < count ? numbers[i] : NONE;
    }

    void empty() {
      count = 0;
    }

    void put(int file) {
      if (count < numbers.length) {
        numbers[count] = file;
        count++;
      }
    }

    void putAll(FileList other) {
      for (int i = 0; i < other.count; i++) {
        put(other.at(i));
      }
    }
  }

  /** Which files stand for a file. */
  private static final class Table {
    private final int[] keys;
    private final FileList[] lists;
    private int keyCount;

    Table() {
      keys = new int[MOST_KEYS];
      lists = new FileList[MOST_KEYS];
      for (int i = 0; i < lists.length; i++) {
        lists[i] = new FileList(MOST_LISTED);
      }
      keyCount = 0;
    }

    int keyCount() {
      return keyCount;
    }

    boolean isFull() {
      return keyCount >= MOST_KEYS;
    }

    int placeOf(int file) {
      for (int i = 0; i < keyCount && i < MOST_KEYS; i++) {
        if (keys[i] == file) {
          return i;
        }
      }
      return NONE;
    }

    boolean hasKey(int file) {
      return placeOf(file) != NONE;
    }

    void setList(int file, FileList list) {
      int place = placeOf(file);
      if (place == NONE && !isFull()) {
        place = keyCount;
        keys[place] = file;
        keyCount++;
      }
      if (place != NONE) {
        lists[place].empty();
        lists[place].putAll(list);
      }
    }

    void removeKey(int file) {
      int place = placeOf(file);
      if (place == NONE) {
        return;
      }
      int last = keyCount - 1;
      keys[place] = keys[last];
      lists[place].empty();
      lists[place].putAll(lists[last]);
      keyCount = last;
    }

    void copyFrom(Table other) {
      keyCount = 0;
      for (int i = 0; i < other.keyCount && i < MOST_KEYS; i++) {
        setList(other.keys[i], other.lists[i]);
      }
    }

    /** Puts what stands for a file behind a list, without what is gone. */
    void putStandIns(int file, Tree tree, FileList target) {
      int place = placeOf(file);
      if (place == NONE) {
        putUnlessGone(file, tree, target);
        return;
      }
      for (int i = 0; i < lists[place].count(); i++) {
        putUnlessGone(lists[place].at(i), tree, target);
      }
    }

    private static void putUnlessGone(int file, Tree tree, FileList target) {
      if (!tree.node(file).gone) {
        target.put(file);
      }
    }
  }

  /** The pieces of a path that count, and where they lead. */
  private static final class Route {
    final FileList list;
    private final int[] words;
    private int pieces;
    private int last;
    private boolean found;

    Route() {
      list = new FileList(MOST_LISTED);
      words = new int[MOST_TEXT];
    }

    boolean found() {
      return found;
    }

    int last() {
      return last;
    }

    void split(ByteRow text, int from, int to) {
      pieces = 0;
      int start = from;
      for (int i = from; i <= to; i++) {
        if (i == to || text.at(i) == '/') {
          takePiece(text, start, i - start);
          start = i + 1;
        }
      }
    }

    private void takePiece(ByteRow text, int start, int length) {
      int word = text.word(start, length);
      if (length == 0 || word == POINT) {
        return;
      }
      if (word == UPWARDS) {
        pieces = Math.max(pieces - 1, 0);
      } else if (pieces < MOST_TEXT) {
        words[pieces] = word;
        pieces++;
      }
    }

    void follow(Tree tree, Table table) {
      found = true;
      arriveAt(ROOT, tree, table);
      for (int i = 0; i < pieces && i < MOST_TEXT && found; i++) {
        int child = childInList(words[i], tree);
        if (child == NONE) {
          found = false;
        } else {
          arriveAt(child, tree, table);
        }
      }
    }

    private void arriveAt(int file, Tree tree, Table table) {
      last = file;
      list.empty();
      table.putStandIns(file, tree, list);
    }

    private int childInList(int word, Tree tree) {
      for (int i = 0; i < list.count(); i++) {
        int file = list.at(i);
        int child = tree.node(file).directory ? tree.childNamed(file, word) : NONE;
        if (child != NONE) {
          return child;
        }
      }
      return NONE;
    }
  }

  /** The processes and their tables. */
  private static final class Processes {
    private final Tree tree;
    private final Table[] tables;
    private final int[] tableOf;
    private final Route wayA;
    private final Route wayB;
    private final FileList scratch;

    Processes(Tree tree) {
      this.tree = tree;
      tables = new Table[PROCESSES];
      tableOf = new int[PROCESSES];
      for (int i = 0; i < PROCESSES; i++) {
        tables[i] = new Table();
        tableOf[i] = i;
      }
      wayA = new Route();
      wayB = new Route();
      scratch = new FileList(MOST_LISTED + MOST_LISTED);
    }

    boolean has(int process) {
      return process >= 0 && process < PROCESSES;
    }

    private Table table(int process) {
      return has(process) ? tables[tableOf[process]] : tables[0];
    }

    Route routeA(int process, ByteRow text) {
      wayA.split(text, 0, firstSpace(text));
      wayA.follow(tree, table(process));
      return wayA;
    }

    Route routeB(int process, ByteRow text) {
      wayB.split(text, firstSpace(text) + 1, text.count());
      wayB.follow(tree, table(process));
      return wayB;
    }

    /** Where path A ends: at the first space, or where the text does. */
    private static int firstSpace(ByteRow text) {
      for (int i = 0; i < text.count(); i++) {
        if (text.at(i) == ' ') {
          return i;
        }
      }
      return text.count();
    }

    boolean kindsFit(FileList list, int file, int how) {
      boolean directories = tree.node(file).directory;
      if (!directories && how != 0) {
        return false;
      }
      for (int i = 0; i < list.count(); i++) {
        if (tree.node(list.at(i)).directory != directories) {
          return false;
        }
      }
      return true;
    }

    FileList joined(int process, FileList list, int file, int how) {
      scratch.empty();
      if (how == 2) {
        table(process).putStandIns(file, tree, scratch);
      }
      scratch.putAll(list);
      if (how == 1) {
        table(process).putStandIns(file, tree, scratch);
      }
      return scratch;
    }

    boolean isKey(int process, int file) {
      return table(process).hasKey(file);
    }

    boolean mayBeKey(int process, int file) {
      return isKey(process, file) || !table(process).isFull();
    }

    void setList(int process, int file, FileList list) {
      table(process).setList(file, list);
    }

    int removeKey(int process, int file) {
      table(process).removeKey(file);
      return table(process).keyCount();
    }

    void shareTable(int from, int to) {
      if (has(from) && has(to)) {
        tableOf[to] = tableOf[from];
      }
    }

    /** There are as many tables as processes, so one is always left for a process of its own. */
    void copyTable(int from, int to) {
      for (int i = 0; i < PROCESSES; i++) {
        if (has(to) && !isUsedByOthers(i, to)) {
          tables[i].copyFrom(table(from));
          tableOf[to] = i;
          return;
        }
      }
    }

    private boolean isUsedByOthers(int table, int process) {
      for (int i = 0; i < PROCESSES; i++) {
        if (i != process && tableOf[i] == table) {
          return true;
        }
      }
      return false;
    }
  }
}
