import java.lang.reflect.Constructor;
import java.lang.reflect.Field;
import java.lang.reflect.Method;
import java.lang.reflect.Modifier;
import java.util.Set;
import java.util.TreeSet;

/** The whole public face of the document, and nothing beside it. */
public final class FaceTest {
  private static final String INDEX = " IndexOutOfBoundsException";
  private static final String STATE = " IllegalStateException";
  private static final String ARGUMENT = " IllegalArgumentException";
  private static final String MISSING = " NoSuchElementException";
  private static final String[] FACE = {
    "int write(long)" + ARGUMENT + STATE,
    "int when(int,boolean)" + INDEX + STATE,
    "int otherwise()" + STATE,
    "int done()" + STATE,
    "int set(int,boolean)" + INDEX + STATE,
    "int drop()" + STATE,
    "int replace(int,int)" + INDEX + STATE + ARGUMENT,
    "int size()",
    "int item(int)" + INDEX,
    "int unfinished()",
    "int presence(int)" + INDEX,
    "int on(int,int)" + INDEX,
    "int features(int)" + ARGUMENT,
    "int dead()",
    "int length(int)" + INDEX,
    "int place(int,int)" + INDEX,
    "int variants()",
    "int error(int)" + INDEX + STATE,
    "int wrong()" + STATE,
    "int firstError()" + STATE,
    "int groups(int)" + INDEX + STATE,
    "int work()" + STATE,
    "double gain()" + STATE,
    "int stack(int,int)" + INDEX + STATE,
    "int outputs(int)" + INDEX + STATE + MISSING,
    "int output(int,int)" + INDEX + STATE + MISSING + ARGUMENT,
    "int variable(int,int)" + INDEX + STATE + MISSING + ARGUMENT,
    "int behaviours()" + STATE,
    "long digest()",
  };

  private FaceTest() {}

  public static void main(String[] args) {
    Check.equal("class: modifiers",
        VariantParser.class.getModifiers(), Modifier.PUBLIC | Modifier.FINAL);
    methods();
    constructors();
    fields();
    classes();
    Check.end();
  }

  private static void methods() {
    Set<String> want = new TreeSet<>();
    Set<String> names = new TreeSet<>();
    for (String signature : FACE) {
      want.add(signature);
      names.add(signature.substring(signature.indexOf(' ') + 1, signature.indexOf('(')));
    }
    Set<String> got = new TreeSet<>();
    for (Method method : VariantParser.class.getDeclaredMethods()) {
      if (!Modifier.isPrivate(method.getModifiers())) {
        got.add(signature(method));
        Check.equal(method + ": modifiers", method.getModifiers(), Modifier.PUBLIC);
      } else if (names.contains(method.getName())) {
        Check.fail(method + " is private and bears the name of a public one");
      }
    }
    Check.equalText("methods", got.toString(), want.toString());
  }

  private static String signature(Method method) {
    StringBuilder text = new StringBuilder();
    text.append(method.getReturnType().getSimpleName()).append(' ').append(method.getName());
    String sign = "(";
    for (Class<?> type : method.getParameterTypes()) {
      text.append(sign).append(type.getSimpleName());
      sign = ",";
    }
    text.append(sign.equals("(") ? "()" : ")");
    for (Class<?> type : method.getExceptionTypes()) {
      text.append(' ').append(type.getSimpleName());
    }
    return text.toString();
  }

  private static void constructors() {
    Constructor<?>[] constructors = VariantParser.class.getDeclaredConstructors();
    Check.equal("constructors", constructors.length, 1);
    Check.equal("constructor: parameters", constructors[0].getParameterCount(), 0);
    Check.equal("constructor: modifiers", constructors[0].getModifiers(), Modifier.PUBLIC);
  }

  private static void fields() {
    for (Field field : VariantParser.class.getDeclaredFields()) {
      checkField(field);
      if (!Modifier.isPrivate(field.getModifiers())) {
        Check.fail(field + " is not private");
      }
    }
  }

  private static void classes() {
    Class<?>[] classes = VariantParser.class.getDeclaredClasses();
    if (classes.length > 12) {
      Check.fail("there are more than 12 classes");
    }
    for (Class<?> inside : classes) {
      if (!Modifier.isPrivate(inside.getModifiers()) || !Modifier.isStatic(inside.getModifiers())) {
        Check.fail(inside + " is not private and static");
      }
      for (Field field : inside.getDeclaredFields()) {
        checkField(field);
      }
    }
  }

  private static void checkField(Field field) {
    if (Modifier.isStatic(field.getModifiers()) && !Modifier.isFinal(field.getModifiers())) {
      Check.fail(field + " is static but not final");
    }
  }
}
