import java.io.IOException;
import java.lang.reflect.Method;
import java.lang.reflect.Modifier;
import java.nio.file.Files;
import java.nio.file.Path;
import java.util.regex.Matcher;
import java.util.regex.Pattern;

/** README.md: its example answers what it says, and it tells of each call of the public face. */
public final class ReadmeTest {
  private static final Pattern CALL =
      Pattern.compile("x\\.(\\w+)\\((.*)\\); +// (-?\\d+(?:\\.\\d+)?)(?::.*)?");

  private ReadmeTest() {}

  public static void main(String[] args) throws IOException, ReflectiveOperationException {
    String page = Files.readString(Path.of("README.md"));
    example(page);
    eachCallIsTold(page);
    Check.end();
  }

  private static void example(String page) throws ReflectiveOperationException {
    String start = "```java\nVariantParser x = new VariantParser();\n";
    int from = page.indexOf(start);
    int to = from < 0 ? -1 : page.indexOf("\n```", from);
    if (to < 0) {
      Check.fail("there is no example");
      return;
    }
    VariantParser x = new VariantParser();
    for (String line : page.substring(from + start.length(), to).split("\n")) {
      Matcher call = CALL.matcher(line);
      if (call.matches()) {
        String got = String.valueOf(answer(x, call.group(1), call.group(2)));
        Check.equalText(line, got, call.group(3));
      } else {
        Check.fail("no call with its answer: " + line);
      }
    }
  }

  private static Object answer(VariantParser x, String name, String written)
      throws ReflectiveOperationException {
    Method method = method(name);
    Class<?>[] types = method.getParameterTypes();
    String[] texts = written.isEmpty() ? new String[0] : written.split(", ");
    Object[] values = new Object[texts.length];
    for (int k = 0; k < texts.length && k < types.length; k++) {
      values[k] = value(texts[k], types[k]);
    }
    return method.invoke(x, values);
  }

  private static Method method(String name) {
    for (Method method : VariantParser.class.getDeclaredMethods()) {
      if (method.getName().equals(name)) {
        return method;
      }
    }
    throw new IllegalArgumentException("the face has no " + name);
  }

  private static Object value(String text, Class<?> type) {
    if (type == boolean.class) {
      return Boolean.valueOf(text);
    }
    long number = text.startsWith("'") ? text.charAt(1) : Long.decode(text.replace("L", ""));
    if (type == long.class) {
      return number;
    }
    return (int) number;
  }

  private static void eachCallIsTold(String page) {
    for (Method method : VariantParser.class.getDeclaredMethods()) {
      boolean isPublic = Modifier.isPublic(method.getModifiers());
      if (isPublic && !page.contains("`" + method.getName() + "(")) {
        Check.fail("there is no row for " + method.getName());
      }
    }
  }
}
