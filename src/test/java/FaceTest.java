import java.io.IOException;
import java.lang.reflect.Constructor;
import java.lang.reflect.Field;
import java.lang.reflect.Method;
import java.lang.reflect.Modifier;
import java.nio.file.Files;
import java.nio.file.Path;
import java.util.Arrays;
import java.util.HashSet;
import java.util.List;
import java.util.Set;
import java.util.TreeSet;

/** The public face is the document's, and nothing else of the class can be seen. */
public final class FaceTest {
  private static final String[] FACE = {
    "void feed(long,int) IllegalArgumentException UnsupportedOperationException",
    "int serve() UnsupportedOperationException NoSuchElementException",
    "int size(boolean)",
    "int out(int) IndexOutOfBoundsException",
    "boolean drop(int)",
    "int handles()",
    "int about(int,int) IndexOutOfBoundsException",
    "int data(int,int) IndexOutOfBoundsException",
    "int files()",
    "boolean type(long,int)",
    "void clear()",
    "int look(int) IllegalArgumentException NoSuchElementException",
    "int member(int,int) IllegalArgumentException NoSuchElementException IndexOutOfBoundsException",
    "int bind(int,int) IllegalArgumentException NoSuchElementException IllegalStateException"
        + " UnsupportedOperationException",
    "int unbind(int) IllegalArgumentException NoSuchElementException",
    "boolean fork(int,int,boolean)",
  };

  public static void main(String[] args) throws IOException {
    Check check = new Check();
    Set<String> due = new TreeSet<>(Arrays.asList(FACE));
    Set<String> got = new TreeSet<>();
    Set<String> names = new HashSet<>();
    for (Method method : MountYard.class.getDeclaredMethods()) {
      if (!Modifier.isPrivate(method.getModifiers())) {
        got.add(tell(method));
        names.add(method.getName());
      }
    }
    check.same("the methods", got, due);
    for (Class<?> inner : MountYard.class.getDeclaredClasses()) {
      check.same("static " + inner, Modifier.isStatic(inner.getModifiers()), true);
      lookAtNames(check, inner, names);
    }
    lookAtFields(check);
    Constructor<?>[] made = MountYard.class.getDeclaredConstructors();
    check.same("constructors", made.length, 1);
    check.same("constructor", Modifier.isPublic(made[0].getModifiers()), true);
    check.same("parameters of the constructor", made[0].getParameterCount(), 0);
    int modifiers = MountYard.class.getModifiers();
    check.same("the class", Modifier.isPublic(modifiers) && Modifier.isFinal(modifiers), true);
    check.same("classes", MountYard.class.getDeclaredClasses().length <= 12, true);
    asTheDocumentWritesIt(check);
    check.end();
  }

  /** FACE is a copy, and reflection does not tell the parameters' names. */
  private static void asTheDocumentWritesIt(Check check) throws IOException {
    String text = Files.readString(Path.of("src/main/java/MountYard.java")).replaceAll("\\s+", " ");
    List<String> face = Document.face();
    check.same("lines of the face", face.size(), FACE.length + 3);
    for (String line : face) {
      String head = line.endsWith(");") || line.contains(" throws ") ? line.replace(";", " {") : line;
      check.same(head, text.contains(head), true);
    }
    for (String head : Document.heads()) {
      check.same("in the face: " + head, face.contains("public " + head + ";"), true);
    }
    check.same("heads of promises", Document.heads().size(), FACE.length + 1);
  }

  private static void lookAtFields(Check check) {
    for (Field field : MountYard.class.getDeclaredFields()) {
      boolean isNone = field.getName().equals("NONE");
      boolean isPrivate = Modifier.isPrivate(field.getModifiers());
      check.same("field " + field.getName() + " is private", isPrivate, !isNone);
      if (Modifier.isStatic(field.getModifiers())) {
        check.same("final " + field.getName(), Modifier.isFinal(field.getModifiers()), true);
      }
    }
    check.same("NONE", MountYard.NONE, -1);
  }

  private static void lookAtNames(Check check, Class<?> inner, Set<String> taken) {
    for (Method method : inner.getDeclaredMethods()) {
      check.same(inner + " bears " + method.getName(), taken.contains(method.getName()), false);
    }
  }

  private static String tell(Method method) {
    StringBuilder text = new StringBuilder(method.getReturnType().getSimpleName());
    text.append(' ').append(method.getName()).append('(');
    for (int i = 0; i < method.getParameterCount(); i++) {
      text.append(i == 0 ? "" : ",").append(method.getParameterTypes()[i].getSimpleName());
    }
    text.append(')');
    for (Class<?> thrown : method.getExceptionTypes()) {
      text.append(' ').append(thrown.getSimpleName());
    }
    return text.toString();
  }
}
