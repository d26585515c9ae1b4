import java.nio.file.Files;
import java.nio.file.Path;
import java.util.List;
import java.util.regex.Matcher;
import java.util.regex.Pattern;

/** Rules of LANGUAGE.md that can be seen in the text of the program; run from the project's root. */
public final class LanguageTest {
  private static final String[] FORBIDDEN = {
    "->", "::", "\\bfinally\\b", "\\bsynchronized\\b", "\\bassert\\b", "\\bgetMessage\\b", "Exact\\(",
    "\\bSystem\\.(?!arraycopy)", "\\bpackage\\b", "\\bprotected\\b", "\\bstatic \\{", "\\bThread\\b",
    "\\bObject\\b", "\\bvar\\b", "\\bhashCode\\b", "\\btoString\\b", "\\bnew [A-Za-z]+Exception\\([^\")]",
  };

  public static void main(String[] args) throws Exception {
    Check check = new Check();
    String text = Files.readString(Path.of("src/main/java/MountYard.java"));
    String code = text.replaceAll("(?s)/\\*.*?\\*/", "").replaceAll("//[^\n]*", "");
    for (String pattern : FORBIDDEN) {
      check.same(pattern, Pattern.compile(pattern).matcher(code).find(), false);
    }
    Matcher imports = Pattern.compile("import [^;]*;").matcher(code);
    while (imports.find()) {
      check.same("import", imports.group(), "import java.util.NoSuchElementException;");
    }
    check.same("signs", text.chars().allMatch(c -> c == '\n' || c >= 32 && c < 127), true);
    lengths(check, List.of(text.split("\n")));
    check.end();
  }

  /** A method begins with a line that ends in a brace at its class's depth, and ends likewise. */
  private static void lengths(Check check, List<String> lines) {
    Pattern head = Pattern.compile("( {2}| {4})[A-Za-z][^;=]*\\([^;]*");
    int start = -1;
    String indent = "";
    for (int i = 0; i < lines.size(); i++) {
      String line = lines.get(i);
      Matcher matcher = head.matcher(line);
      if (start < 0 && matcher.matches() && !line.contains(" class ")) {
        start = i;
        indent = matcher.group(1);
      }
      if (start >= 0 && line.equals(indent + "}")) {
        check.same("line " + (start + 1) + " begins a short method", i - start < 60, true);
        start = -1;
      }
    }
  }
}
