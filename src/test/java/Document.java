import java.io.IOException;
import java.io.UncheckedIOException;
import java.nio.file.Files;
import java.nio.file.Path;
import java.util.List;
import java.util.regex.Pattern;
import java.util.stream.Collectors;

/** The words of the document that promise something (its terms and promises, on one line), and its face. */
final class Document {
  private static final Pattern HEAD = Pattern.compile("`([^`\n]*)`:");
  private static final String ALL = read();
  private static final String WORDS = promising();

  private Document() {}

  private static String read() {
    try {
      return Files.readString(Path.of("../shared/DOC.md"));
    } catch (IOException e) {
      throw new UncheckedIOException(e);
    }
  }

  private static String promising() {
    String part = ALL.substring(ALL.indexOf("## Terms"), ALL.indexOf("## Not promised"));
    String withoutMarks = part.replaceAll("(?m)^#.*$", "").replaceAll("(?m)^```.*$", "");
    // FaceTest looks at the heads of the methods, which stand between backticks.
    return HEAD.matcher(withoutMarks).replaceAll("").replaceAll("\\s+", " ").trim();
  }

  /** The lines of the public face, from the class to its last method. */
  static List<String> face() {
    int start = ALL.indexOf("public final class");
    String block = ALL.substring(start, ALL.indexOf("\n}", start));
    return block.lines().map(String::trim).collect(Collectors.toList());
  }

  /** The heads of the constructor and the methods, as the promises write them. */
  static List<String> heads() {
    return HEAD.matcher(ALL).results().map(found -> found.group(1)).collect(Collectors.toList());
  }

  static String words() {
    return WORDS;
  }

  static boolean hasOnce(String quoted) {
    int place = WORDS.indexOf(quoted);
    return place >= 0 && WORDS.indexOf(quoted, place + 1) < 0;
  }
}
