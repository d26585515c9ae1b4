import java.io.IOException;
import java.nio.file.DirectoryStream;
import java.nio.file.Files;
import java.nio.file.Path;
import java.util.ArrayList;
import java.util.List;
import java.util.regex.Matcher;
import java.util.regex.Pattern;

/** Every word of the terms and of the promises belongs to a test that says it (Check.says). */
public final class SentencesTest {
  private static final Pattern LITERAL = Pattern.compile("\"((?:[^\"\\\\]|\\\\.)*)\"");
  private static final Pattern SAYS =
      Pattern.compile("\\.says\\(\\s*(\"(?:[^\"\\\\]|\\\\.)*\"(?:\\s*\\+\\s*\"(?:[^\"\\\\]|\\\\.)*\")*)");

  public static void main(String[] args) throws IOException {
    Check check = new Check();
    String words = Document.words();
    boolean[] said = new boolean[words.length()];
    for (String quoted : quotations()) {
      int place = words.indexOf(quoted);
      check.same("in the document: " + quoted, place >= 0, true);
      for (int i = 0; place >= 0 && i < quoted.length(); i++) {
        said[place + i] = true;
      }
    }
    check.same("words without a test", unsaid(words, said), List.of());
    check.end();
  }

  private static List<String> quotations() throws IOException {
    List<String> all = new ArrayList<>();
    try (DirectoryStream<Path> tests = Files.newDirectoryStream(Path.of("src/test/java"), "*Test.java")) {
      for (Path test : tests) {
        Matcher matcher = SAYS.matcher(Files.readString(test));
        while (matcher.find()) {
          all.add(joined(matcher.group(1)));
        }
      }
    }
    return all;
  }

  private static String joined(String literals) {
    StringBuilder text = new StringBuilder();
    Matcher matcher = LITERAL.matcher(literals);
    while (matcher.find()) {
      text.append(matcher.group(1));
    }
    return text.toString();
  }

  private static List<String> unsaid(String words, boolean[] said) {
    List<String> gaps = new ArrayList<>();
    StringBuilder gap = new StringBuilder();
    for (int i = 0; i <= words.length(); i++) {
      if (i < words.length() && !said[i]) {
        gap.append(words.charAt(i));
      } else if (gap.length() > 0) {
        if (!gap.toString().isBlank()) {
          gaps.add(gap.toString());
        }
        gap.setLength(0);
      }
    }
    return gaps;
  }
}
