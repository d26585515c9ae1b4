import java.io.ByteArrayOutputStream;
import java.io.IOException;
import java.io.PrintStream;
import java.lang.reflect.Method;
import java.lang.reflect.Modifier;
import java.net.URL;
import java.net.URLClassLoader;
import java.nio.charset.StandardCharsets;
import java.nio.file.Files;
import java.nio.file.Path;
import java.util.ArrayList;
import java.util.List;
import java.util.Map;
import java.util.TreeMap;
import java.util.regex.Matcher;
import java.util.regex.Pattern;

/** What README.md says of the class is so; run from the project's root. */
public final class ReadmeTest {
  private static final Pattern TYPE_ROW =
      Pattern.compile("(?m)^\\| (\\d+) ([A-Z]+) \\|[^|\n]*\\|[^|\n]*\\|([^|\n]*)\\|$");
  private static final Pattern TYPE_TERM = Pattern.compile("(\\d+) ([A-Z]+): ");
  private static final Pattern ERROR =
      Pattern.compile("\\b([HG])\\b|\\b([a-z]):|\\belse ([a-z])\\b");

  public static void main(String[] args) throws Exception {
    Check check = new Check();
    String page = Files.readString(Path.of("README.md"));
    calls(check, page);
    errors(check, page);
    letters(check, page);
    names(check, page);
    program(check, block(page, "java"), block(page, "text"));
    check.end();
  }

  private static String block(String page, String language) {
    Matcher matcher = Pattern.compile("(?s)\n```" + language + "\n(.*?)```\n").matcher(page);
    return matcher.find() ? matcher.group(1) : "";
  }

  /** Every call has a row, and in it every exception that it may throw, in their order. */
  private static void calls(Check check, String page) {
    for (Method method : MountYard.class.getMethods()) {
      if (method.getDeclaringClass() == MountYard.class) {
        String row = "(?m)^\\| `" + method.getName() + "\\([^`]*\\)` \\|.*$";
        Matcher matcher = Pattern.compile(row).matcher(page);
        String told = matcher.find() ? matcher.group() : "no row";
        check.same("a row for " + method.getName(), told.equals("no row"), false);
        List<String> due = new ArrayList<>();
        for (Class<?> thrown : method.getExceptionTypes()) {
          due.add(thrown.getSimpleName());
        }
        check.same("what " + method.getName() + " throws", exceptions(told), due);
      }
    }
  }

  private static List<String> exceptions(String row) {
    List<String> all = new ArrayList<>();
    Matcher matcher = Pattern.compile("`([A-Za-z]+Exception)`").matcher(row);
    while (matcher.find()) {
      all.add(matcher.group(1));
    }
    return all;
  }

  /** Every type has a row, with the letters of its errors in the document's order. */
  private static void errors(Check check, String page) {
    Map<String, String> told = new TreeMap<>();
    Matcher row = TYPE_ROW.matcher(page);
    while (row.find()) {
      told.put(row.group(1) + " " + row.group(2), row.group(3).replaceAll("\\b[a-z]{2,}\\b|[, ]", ""));
    }
    check.same("the errors of the types", told, errorsOfTheDocument());
  }

  private static Map<String, String> errorsOfTheDocument() {
    String words = Document.words();
    Map<String, String> due = new TreeMap<>();
    Matcher term = TYPE_TERM.matcher(words);
    int end = words.indexOf("PROCESSES 0 .. 3");
    List<Integer> starts = new ArrayList<>();
    while (term.find()) {
      starts.add(term.start());
    }
    for (int i = 0; i < starts.size(); i++) {
      int stop = i + 1 < starts.size() ? starts.get(i + 1) : end;
      term.find(starts.get(i));
      String first = term.group(1).equals("100") ? "f" : "fv";
      due.put(term.group(1) + " " + term.group(2), first + lettersIn(words.substring(term.end(), stop)));
    }
    return due;
  }

  private static String lettersIn(String term) {
    StringBuilder letters = new StringBuilder();
    Matcher matcher = ERROR.matcher(term);
    while (matcher.find()) {
      for (int i = 1; i <= 3; i++) {
        letters.append(matcher.group(i) == null ? "" : matcher.group(i).toLowerCase());
      }
    }
    return letters.toString();
  }

  private static void letters(Check check, String page) {
    StringBuilder told = new StringBuilder();
    Matcher row = Pattern.compile("(?m)^\\| ([a-z]) \\|").matcher(page);
    while (row.find()) {
      told.append(row.group(1));
    }
    check.same("the letters that are explained", told.toString(), "fvahogdmnxbl");
  }

  /** A test or helper that the page names is there, and each one that is there is named. */
  private static void names(Check check, String page) throws IOException {
    List<String> files = new ArrayList<>();
    try (var found = Files.newDirectoryStream(Path.of("src/test/java"), "*.java")) {
      found.forEach(path -> files.add(path.getFileName().toString().replace(".java", "")));
    }
    for (String file : files) {
      String name = file.replaceFirst("^(Promise|EdgesOf).*Test$", "$1..Test");
      boolean named = page.contains("`" + name + "`");
      check.same("README.md names " + name, named, true);
    }
    Matcher named = Pattern.compile("`([A-Z][A-Za-z]*Test)`").matcher(page);
    while (named.find()) {
      check.same(named.group(1) + " is there", files.contains(named.group(1)), true);
    }
  }

  /** The program prints what the page says, and its object is called no more than 512 times. */
  private static void program(Check check, String source, String due) throws Exception {
    String counting =
        source
            .replace("YARD.", "counted().")
            .replaceFirst(
                "(?m)^  public static void main",
                "  public static int calls;\n"
                    + "  private static MountYard counted() { calls++; return YARD; }\n$0");
    Path place = Files.createTempDirectory("readme");
    Path file = place.resolve("Example.java");
    Files.writeString(file, counting);
    String path = System.getProperty("java.class.path");
    Process javac =
        new ProcessBuilder("javac", "-cp", path, "-d", place.toString(), file.toString())
            .inheritIO()
            .start();
    check.same("javac of the program of README.md", javac.waitFor(), 0);
    try (URLClassLoader loader = new URLClassLoader(new URL[] {place.toUri().toURL()})) {
      Class<?> example = loader.loadClass("Example");
      check.same("what the program of README.md prints", printed(example), due);
      int calls = example.getField("calls").getInt(null);
      check.same("its calls are counted", calls > 100, true);
      check.same("its calls are at most 512", calls <= 512, true);
      check.same("it is public", Modifier.isPublic(example.getModifiers()), true);
    }
    for (String name : List.of("Example.class", "Example.java", "")) {
      Files.deleteIfExists(place.resolve(name));
    }
  }

  private static String printed(Class<?> example) throws Exception {
    PrintStream before = System.out;
    ByteArrayOutputStream bytes = new ByteArrayOutputStream();
    System.setOut(new PrintStream(bytes, true, StandardCharsets.UTF_8));
    try {
      example.getMethod("main", String[].class).invoke(null, (Object) new String[0]);
    } finally {
      System.setOut(before);
    }
    return bytes.toString(StandardCharsets.UTF_8).replace(System.lineSeparator(), "\n");
  }
}
