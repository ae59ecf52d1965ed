import java.lang.reflect.Constructor;
import java.lang.reflect.Field;
import java.lang.reflect.Method;
import java.lang.reflect.Modifier;
import java.util.Arrays;
import java.util.TreeSet;

/** The class has the document's public face, and nothing else of it can be seen. */
public final class FaceTest {
  private static final String[] FACE = {
    "int cape(int)", "int sailor(int,int)", "int saved(int,int)", "int comes(int)", "int saves(int,int,int)",
    "int boards(int,int)", "int sets(int,int)", "int seasons(int)", "int may(int,int)", "int with(int)",
    "int lawful(int)", "int largest(int)", "int fewestBoats(int)", "int manned(int,int,int,int)",
    "int bestCrew(int,int)", "int cheapest(int,int)", "int quarrels()", "int strictest(int)",
    "int freeLaw(int,int)", "int owed(int)", "int mostOwed()", "int owes(int)", "int rings(int)",
    "int line(int,int)", "int behind(int,int)", "int lostIn(int)", "int unmanned()", "int falls(int,int)",
    "int keepAshore(int)", "int calm(int)", "int stranger(int,int)", "int hire(int,int,int)",
    "int two(int,int,int)", "long odds(int,int,int,int)", "int whatIs(int,int,int)", "long mean(int)",
    "int forged(int)", "int judge(int)", "int capes(int,int,int)", "int image()", "int restore()",
    "int count(int)", "int keep(int,int,int,int)", "int row(int,int,int)", "int put(int,int,int)",
    "long element(int,int) throws IllegalArgumentException,IllegalStateException",
    "int copy(int,int,int,int,int)", "int cost(int)", "int toss(int)"
  };

  private static final Check check = new Check();

  public static void main(String[] args) {
    Class<?> face = NoManMaySail.class;
    int way = face.getModifiers();
    check.holds("public and final", Modifier.isPublic(way) && Modifier.isFinal(way));
    check.holds("of no other class", face.getSuperclass() == Object.class);
    TreeSet<String> found = new TreeSet<>();
    TreeSet<String> hidden = new TreeSet<>();
    for (Method m : face.getDeclaredMethods()) {
      if (Modifier.isPublic(m.getModifiers())) {
        found.add(told(m));
        check.holds(m.getName() + " is no static one", !Modifier.isStatic(m.getModifiers()));
      } else if (!m.isSynthetic()) {
        check.holds(m.getName() + " is private", Modifier.isPrivate(m.getModifiers()));
        hidden.add(m.getName());
      }
    }
    TreeSet<String> due = new TreeSet<>(Arrays.asList(FACE));
    check.due("methods", found.size(), due.size());
    for (String method : due) {
      check.holds(method, found.contains(method));
      check.holds("private " + method, !hidden.contains(method.replaceAll(".* (\\w+)\\(.*", "$1")));
    }
    for (Field f : face.getDeclaredFields()) {
      check.holds(f.getName() + " is private", Modifier.isPrivate(f.getModifiers()));
    }
    Constructor<?>[] makers = face.getDeclaredConstructors();
    check.due("constructors", makers.length, 1);
    check.due("arguments of the constructor", makers[0].getParameterCount(), 0);
    check.holds("the constructor is public", Modifier.isPublic(makers[0].getModifiers()));
    check.end("FaceTest");
  }

  private static String told(Method m) {
    StringBuilder words = new StringBuilder(m.getReturnType().getName()).append(' ').append(m.getName());
    String[] types = Arrays.stream(m.getParameterTypes()).map(Class::getName).toArray(String[]::new);
    words.append('(').append(String.join(",", types)).append(')');
    String[] thrown = Arrays.stream(m.getExceptionTypes()).map(Class::getSimpleName).toArray(String[]::new);
    return words.append(thrown.length == 0 ? "" : " throws " + String.join(",", thrown)).toString();
  }
}
