import java.lang.reflect.InvocationTargetException;
import java.lang.reflect.Method;
import java.util.Arrays;
import java.util.HashMap;
import java.util.Map;

/** Calls the class or its model by a call's name; what is thrown is told by a number of its own. */
final class Calls {
  private static final long ANOTHER_THROWN = -7999999;
  private static final Map<String, Method> methods = new HashMap<>();

  private Calls() {}

  static long answer(Object who, String name, int... arguments) {
    try {
      Object[] boxed = Arrays.stream(arguments).boxed().toArray();
      return ((Number) method(who, name, arguments.length).invoke(who, boxed)).longValue();
    } catch (InvocationTargetException e) {
      return thrown(e.getCause());
    } catch (ReflectiveOperationException e) {
      throw new IllegalArgumentException("no call " + name + " of " + arguments.length, e);
    }
  }

  /** The answer of a call as it is told: its name and its arguments, "manned 4 4 0 -1". */
  static long answer(Object who, String call) {
    String[] words = call.split(" ");
    return answer(who, words[0], numbers(words, 1));
  }

  /** The numbers from a word on; LEAST and MOST are the ends of int. */
  static int[] numbers(String[] words, int from) {
    int[] numbers = new int[words.length - from];
    for (int i = 0; i < numbers.length; i++) {
      numbers[i] = number(words[from + i]);
    }
    return numbers;
  }

  static int number(String word) {
    if (word.equals("LEAST")) {
      return Integer.MIN_VALUE;
    }
    return word.equals("MOST") ? Integer.MAX_VALUE : Integer.parseInt(word);
  }

  /** What is due, as it is told: a number, or throws.IllegalStateException and its like. */
  static long due(String word) {
    switch (word) {
      case "throws.IllegalArgumentException":
        return Model.ILLEGAL_ARGUMENT;
      case "throws.IllegalStateException":
        return Model.ILLEGAL_STATE;
      default:
        return Long.parseLong(word);
    }
  }

  private static long thrown(Throwable cause) {
    if (cause.getClass() == IllegalArgumentException.class) {
      return Model.ILLEGAL_ARGUMENT;
    }
    return cause.getClass() == IllegalStateException.class ? Model.ILLEGAL_STATE : ANOTHER_THROWN;
  }

  private static Method method(Object who, String name, int arguments) throws NoSuchMethodException {
    String key = who.getClass().getName() + "." + name + "/" + arguments;
    Method known = methods.get(key);
    if (known == null) {
      Class<?>[] types = new Class<?>[arguments];
      Arrays.fill(types, int.class);
      known = who.getClass().getDeclaredMethod(name, types);
      methods.put(key, known);
    }
    return known;
  }
}
