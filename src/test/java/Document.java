import java.io.IOException;
import java.io.UncheckedIOException;
import java.nio.file.Files;
import java.nio.file.Path;

/** The words of the document that promise something: its terms and its promises, on one line. */
final class Document {
  private static final String WORDS = read();

  private Document() {}

  private static String read() {
    try {
      String all = Files.readString(Path.of("../shared/DOC.md"));
      String part = all.substring(all.indexOf("## Terms"), all.indexOf("## Not promised"));
      String withoutMarks = part.replaceAll("(?m)^#.*$", "").replaceAll("(?m)^```.*$", "");
      // FaceTest looks at the heads of the methods, which stand between backticks.
      return withoutMarks.replaceAll("`[^`\n]*`:", "").replaceAll("\\s+", " ").trim();
    } catch (IOException e) {
      throw new UncheckedIOException(e);
    }
  }

  static String words() {
    return WORDS;
  }

  static boolean hasOnce(String quoted) {
    int place = WORDS.indexOf(quoted);
    return place >= 0 && WORDS.indexOf(quoted, place + 1) < 0;
  }
}
