/** Two objects with one past: what changes nothing leaves the first as the second is. */
final class Twins {
  /** Something that is done with an object. */
  interface Deed {
    void with(Wire wire);
  }

  private static final String[] TEXTS = {"", "a", "b", "c", "d", "e", "p", "q", "a/x", "b/y", "c/z"};

  private Twins() {}

  /** Looks whether a deed changes nothing for an object that has this past. */
  static void unchanged(Check check, String what, Deed past, Deed deed) {
    Wire one = new Wire();
    Wire other = new Wire();
    past.with(one);
    past.with(other);
    deed.with(one);
    check.same(what + " changes nothing: all", tell(one), tell(other));
  }

  /** All that can be known of an object; what is asked for at last changes it. */
  private static String tell(Wire wire) {
    StringBuilder all = new StringBuilder();
    rows(wire, all);
    files(wire.yard, all);
    text(wire, all);
    restOfIn(wire, all);
    handles(wire, all);
    tables(wire, all);
    return all.toString();
  }

  private static void rows(Wire wire, StringBuilder all) {
    all.append("\nIN ").append(wire.yard.size(false));
    all.append(" OUT ").append(Bytes.hex(wire.outBytes()));
    all.append(" handles ").append(wire.yard.handles());
    wire.yard.drop(wire.yard.size(true));
  }

  private static void files(MountYard yard, StringBuilder all) {
    for (int file = 0; file < yard.files(); file++) {
      all.append("\nfile ").append(file);
      for (int part = 0; part < 5; part++) {
        all.append(' ').append(yard.about(file, part));
      }
      for (int i = 0; i < yard.about(file, 2); i++) {
        all.append(',').append(yard.data(file, i));
      }
    }
  }

  private static void text(Wire wire, StringBuilder all) {
    all.append("\ntext");
    for (int process = 0; process < 4; process++) {
      int p = process;
      all.append(' ').append(Check.answer(() -> wire.yard.look(p)));
    }
    int room = 0;
    while (wire.yard.type('/', 1)) {
      room++;
    }
    all.append(" room ").append(room);
  }

  private static void restOfIn(Wire wire, StringBuilder all) {
    all.append("\nserved");
    for (int i = 0; i < 200 && wire.yard.size(false) > 0; i++) {
      String type = Check.answer(wire.yard::serve);
      if (type.startsWith("throws")) {
        wire.yard.feed(0, 1);
      } else {
        all.append(' ').append(type).append(':').append(Bytes.hex(wire.outBytes()));
      }
      wire.yard.drop(wire.yard.size(true));
    }
  }

  private static void handles(Wire wire, StringBuilder all) {
    for (long handle = 0; handle < 12; handle++) {
      all.append("\nhandle ").append(handle).append(' ').append(wire.stat(handle));
      all.append(' ').append(wire.read(handle, 30, 60));
      all.append(' ').append(wire.read(handle, 0, 200));
      all.append(' ').append(wire.write(handle, 0, "w"));
      all.append(' ').append(wire.walk(handle, handle));
    }
  }

  private static void tables(Wire wire, StringBuilder all) {
    for (int process = 0; process < 4; process++) {
      for (String text : TEXTS) {
        wire.text(text);
        for (int k = 0; k < 5; k++) {
          int p = process;
          int place = k;
          all.append(' ').append(Check.answer(() -> wire.yard.member(p, place)));
        }
      }
    }
    for (int process = 0; process < 4; process++) {
      for (String text : TEXTS) {
        int p = process;
        wire.text(text);
        all.append("\nunbind ").append(text).append(' ').append(Check.answer(() -> wire.yard.unbind(p)));
      }
    }
  }
}
