import java.lang.reflect.InvocationTargetException;
import java.lang.reflect.Method;
import java.util.ArrayList;
import java.util.List;
import java.util.Map;
import java.util.concurrent.ConcurrentHashMap;
import java.util.regex.Matcher;
import java.util.regex.Pattern;

/**
 * Runs calls written as the document writes its examples: {@code addRouter() = 0; tick(3) = 12;
 * routeCost(0, 2) = throws NoSuchElementException}. A call without a result may answer anything.
 */
final class Script {
  private static final Pattern CALL = Pattern.compile("(\\w+)\\(([^)]*)\\)(?: = (.+))?");

  private static final Map<String, Method> METHODS = new ConcurrentHashMap<>();

  private Script() {}

  /** The calls that were not answered as written. */
  static List<String> faults(Object domain, String script) {
    List<String> faults = new ArrayList<>();
    for (String part : script.split(";")) {
      String text = part.strip().replaceAll("\\s+", " ");
      if (!text.isEmpty()) {
        Matcher matcher = CALL.matcher(text);
        if (!matcher.matches()) {
          throw new IllegalArgumentException("not a call: " + text);
        }
        String answer = call(domain, matcher.group(1), matcher.group(2));
        String due = matcher.group(3);
        if (due != null && !due.equals(answer)) {
          faults.add(text + " but was " + answer);
        }
      }
    }
    return faults;
  }

  private static String call(Object domain, String name, String arguments) {
    String[] words = arguments.isBlank() ? new String[0] : arguments.split(",");
    Object[] values = new Object[words.length];
    for (int i = 0; i < words.length; i++) {
      String word = words[i].strip();
      values[i] =
          word.equals("true") || word.equals("false")
              ? (Object) Boolean.valueOf(word)
              : (Object) Integer.valueOf(word);
    }
    return call(domain, name, values);
  }

  /** The answer as a text; an exception answers "throws" and its simple name. */
  static String call(Object domain, String name, Object... values) {
    try {
      return String.valueOf(method(domain, name).invoke(domain, values));
    } catch (InvocationTargetException e) {
      return "throws " + e.getCause().getClass().getSimpleName();
    } catch (IllegalAccessException e) {
      throw new IllegalStateException(e);
    }
  }

  private static Method method(Object domain, String name) {
    return METHODS.computeIfAbsent(
        domain.getClass().getName() + "." + name, key -> find(domain.getClass(), name));
  }

  private static Method find(Class<?> type, String name) {
    for (Method method : type.getMethods()) {
      if (method.getName().equals(name)) {
        return method;
      }
    }
    throw new IllegalArgumentException("no method " + name);
  }
}
