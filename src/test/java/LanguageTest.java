import java.io.IOException;
import java.lang.reflect.Field;
import java.lang.reflect.Method;
import java.lang.reflect.Modifier;
import java.nio.charset.StandardCharsets;
import java.nio.file.Files;
import java.nio.file.Path;
import java.util.Arrays;
import java.util.Set;
import java.util.regex.Matcher;
import java.util.regex.Pattern;

/** What can be seen of LANGUAGE.md without a compiler: words, types and the shape of the classes. */
public final class LanguageTest {
  private static final Path SOURCE = Path.of("src/main/java/NoManMaySail.java");
  private static final String[] NOT_ONE = {
    "->", "::", "@[A-Z]", "\\bassert\\b", "\\bsynchronized\\b", "\\bfinally\\b", "\\binstanceof\\b",
    "\\bpackage\\b", "\\bprotected\\b", "\\bvolatile\\b", "\\bnative\\b", "\\bstrictfp\\b",
    "\\bObject\\b", "\\bThrowable\\b", "\\bError\\b", "\\bException\\b", "\\bThread\\b", "\\bRandom\\b",
    "System\\.(?!arraycopy)", "Math\\.\\w*Exact", "getMessage", "\\bnull\\b", "\\bdouble\\b", "\\bfloat\\b",
    "\\b(?:Byte|Short|Character|Boolean|Long)\\.", "[^\\x00-\\x7f]", "\\bimport (?!java\\.util\\.Arrays;)",
    "catch \\((?!(?:IllegalStateException|IllegalArgumentException|UnsupportedOperationException) )"
  };
  private static final Set<Class<?>> CONSTANTS = Set.of(int.class, long.class, boolean.class, char.class, String.class);
  private static final Check check = new Check();

  public static void main(String[] args) throws IOException {
    String text = Files.readString(SOURCE, StandardCharsets.UTF_8);
    String code = text.replaceAll("(?s)/\\*.*?\\*/", "").replaceAll("//[^\n]*", "");
    for (String pattern : NOT_ONE) {
      Matcher m = Pattern.compile(pattern).matcher(code);
      check.holds("none of " + pattern, !m.find());
    }
    check.holds("comments are plain too", text.chars().allMatch(c -> c < 128));
    longMethods(text);
    shape(NoManMaySail.class);
    Class<?>[] inside = NoManMaySail.class.getDeclaredClasses();
    check.holds("some twelve classes", inside.length + 1 <= 12);
    for (Class<?> c : inside) {
      check.holds(c.getSimpleName() + " is private", Modifier.isPrivate(c.getModifiers()));
      check.holds(c.getSimpleName() + " is static", Modifier.isStatic(c.getModifiers()));
      shape(c);
    }
    check.end("LanguageTest");
  }

  private static void shape(Class<?> c) {
    int fields = 0;
    for (Field f : c.getDeclaredFields()) {
      if (Modifier.isStatic(f.getModifiers())) {
        boolean constant = Modifier.isFinal(f.getModifiers()) && CONSTANTS.contains(f.getType());
        check.holds(c.getSimpleName() + "." + f.getName() + " is a constant", constant);
      } else {
        fields++;
      }
    }
    check.holds(c.getSimpleName() + " has some twenty fields", fields <= 20);
    for (Method m : c.getDeclaredMethods()) {
      check.holds(m.getName() + " takes at most seven", m.getParameterCount() <= 7);
      boolean ofFace = c == NoManMaySail.class && Modifier.isPublic(m.getModifiers());
      check.holds(m.getName() + " has a name of its own", ofFace || !isNameOfFace(m.getName()));
    }
  }

  private static boolean isNameOfFace(String name) {
    return Arrays.stream(NoManMaySail.class.getMethods())
        .anyMatch(m -> m.getDeclaringClass() == NoManMaySail.class && m.getName().equals(name));
  }

  /** By the indents of the source: 2 of the class's own methods, 4 of those inside. */
  private static void longMethods(String text) {
    String[] lines = text.split("\n");
    for (int i = 0; i < lines.length; i++) {
      Matcher head = Pattern.compile("^( {2}| {4})[\\w\\[\\]][^=;]*\\) ?(?:throws [^{]*)?\\{$").matcher(lines[i]);
      if (head.find()) {
        int end = i;
        while (end < lines.length && !lines[end].equals(head.group(1) + "}")) {
          end++;
        }
        check.holds(lines[i].trim() + " is short", end - i <= 60);
      }
    }
  }
}
