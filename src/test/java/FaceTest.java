import java.io.IOException;
import java.lang.reflect.Constructor;
import java.lang.reflect.Field;
import java.lang.reflect.Method;
import java.lang.reflect.Modifier;
import java.nio.file.Files;
import java.nio.file.Path;
import java.util.Arrays;
import java.util.List;
import java.util.Set;
import java.util.TreeSet;
import java.util.regex.Pattern;

/** The public face, and what can be seen of LANGUAGE.md from outside and from the words of the file. */
public final class FaceTest {
  private static final Check check = new Check();

  private static final String[] FACE = {
      "int order int int int int int", "int hidden int int int int int", "int sleeper int int int int int",
      "int cancel int", "int cancelAll int", "int less int int", "int change int int", "int pass int",
      "int tick int", "int band int int", "int limit int int", "int gather", "int auction", "int halt",
      "int resume", "int blank", "int knock", "int best int", "int level int int int",
      "int ofOrder int int", "int first int int", "int queued int int int", "int depth int int",
      "int between int int int", "String text int", "int sleepers int", "int trade int int",
      "String tape int", "int minute int int", "int account int int", "int house int",
      "int refused int", "int told int boolean", "int would int int int int boolean",
      "int wouldAuction int", "int past int int", "boolean isSound", "long digest"};

  public static void main(String[] args) throws IOException {
    face();
    members();
    words();
    check.end();
  }

  private static void face() {
    Set<String> due = new TreeSet<>(Arrays.asList(FACE));
    Set<String> got = new TreeSet<>();
    for (Method m : Orderbook.class.getDeclaredMethods()) {
      if (Modifier.isPublic(m.getModifiers())) {
        StringBuilder line = new StringBuilder(m.getReturnType().getSimpleName() + " " + m.getName());
        for (Class<?> p : m.getParameterTypes()) {
          line.append(' ').append(p.getSimpleName());
        }
        got.add(line.toString());
      }
    }
    check.is("rule 1: the face", got, due);
    check.is("rule 1: final", Modifier.isFinal(Orderbook.class.getModifiers()), true);
    Constructor<?>[] made = Orderbook.class.getConstructors();
    check.is("1: the constructor", made.length + " " + made[0].getParameterCount(), "1 0");
  }

  private static void members() {
    Set<String> names = new TreeSet<>();
    for (String line : FACE) {
      names.add(line.split(" ")[1]);
    }
    for (Method m : Orderbook.class.getDeclaredMethods()) {
      boolean isPrivate = Modifier.isPrivate(m.getModifiers());
      check.is("rule 1: " + m, isPrivate || Modifier.isPublic(m.getModifiers()), true);
      check.is("rule 1: a private " + m, isPrivate && names.contains(m.getName()), false);
      check.is("rule 11: " + m, m.getParameterCount() <= 7, true);
    }
    for (Field f : Orderbook.class.getDeclaredFields()) {
      check.is("rule 1: " + f, Modifier.isPrivate(f.getModifiers()), true);
    }
    Class<?>[] inside = Orderbook.class.getDeclaredClasses();
    check.is("rule 11: classes", inside.length < 12, true);
    for (Class<?> c : inside) {
      check.is("rule 2: " + c, Modifier.isStatic(c.getModifiers()), true);
      check.is("rule 1: " + c, Modifier.isPublic(c.getModifiers()), false);
      long fields = Arrays.stream(c.getDeclaredFields())
          .filter(f -> !Modifier.isStatic(f.getModifiers())).count();
      check.is("rule 11: fields of " + c, fields <= 20, true);
      for (Method m : c.getDeclaredMethods()) {
        check.is("rule 1: " + m, names.contains(m.getName()), false);
        check.is("rule 11: " + m, m.getParameterCount() <= 7, true);
      }
    }
  }

  private static void words() throws IOException {
    List<String> lines = Files.readAllLines(Path.of("src/main/java/Orderbook.java"));
    Pattern wrong = Pattern.compile("->|::|\\b(synchronized|assert|finally|catch|instanceof|random|Random|"
        + "System|Thread|protected|volatile|hashCode|float|double|Object)\\b|\"\\s*\\+|\\+\\s*\"");
    for (int i = 0; i < lines.size(); i++) {
      String code = lines.get(i).replaceAll("^\\s*(/\\*\\*|\\*|//).*", "");
      check.is("the language, line " + (i + 1), wrong.matcher(code).find(), false);
      check.is("rule 4, line " + (i + 1),
          code.startsWith("import ") && !code.equals("import java.util.ArrayList;"), false);
      check.is("signs, line " + (i + 1), code.chars().allMatch(c -> c >= 32 && c < 127), true);
    }
  }
}
