import java.lang.reflect.Constructor;
import java.lang.reflect.Field;
import java.lang.reflect.Method;
import java.lang.reflect.Modifier;
import java.util.Set;
import java.util.TreeSet;

/** The face is that of the document, and nothing else is to be seen (LANGUAGE.md, rules 1, 5 and 11). */
public final class FaceTest {
  private static final Checks CHECKS = new Checks();

  private static final Set<String> FACE = Set.of(
      "void constant(int, boolean) IllegalArgumentException",
      "void variable(int, int) IllegalArgumentException",
      "boolean choose(int, int, int, int) IllegalArgumentException",
      "boolean join(int, int, int, int) IllegalArgumentException",
      "boolean some(int, int, int, int) IllegalArgumentException",
      "boolean turn(int, int) IllegalArgumentException",
      "boolean value(int, int) IllegalArgumentException",
      "boolean same(int, int) IllegalArgumentException",
      "int count(int) IllegalArgumentException, UnsupportedOperationException",
      "int support(int) IllegalArgumentException",
      "int tidy(int) IllegalArgumentException",
      "int wrong()");

  private static String names(Class<?>[] types) {
    StringBuilder text = new StringBuilder();
    for (Class<?> type : types) {
      text.append(text.length() == 0 ? "" : ", ").append(type.getSimpleName());
    }
    return text.toString();
  }

  private static String told(Method method) {
    String parameters = "(" + names(method.getParameterTypes()) + ") ";
    String told = method.getReturnType().getSimpleName() + " " + method.getName() + parameters;
    return (told + names(method.getExceptionTypes())).trim();
  }

  private static void members(Class<?> type, Set<String> taken) {
    for (Field field : type.getDeclaredFields()) {
      if (Modifier.isStatic(field.getModifiers())) {
        CHECKS.due("static final " + field, Modifier.isFinal(field.getModifiers()), true);
      }
    }
    for (Method method : type.getDeclaredMethods()) {
      CHECKS.due("parameters of " + method, method.getParameterCount() <= 7, true);
      if (!Modifier.isPublic(method.getModifiers())) {
        CHECKS.due("a name of the face: " + method, taken.contains(method.getName()), false);
      }
    }
  }

  public static void main(String[] args) {
    Class<DiagramStore> type = DiagramStore.class;
    CHECKS.due("public and final", type.getModifiers(), Modifier.PUBLIC | Modifier.FINAL);
    Set<String> seen = new TreeSet<>();
    Set<String> taken = new TreeSet<>();
    for (Method method : type.getDeclaredMethods()) {
      if (Modifier.isPrivate(method.getModifiers())) {
        continue;
      }
      CHECKS.due("public: " + method, method.getModifiers(), Modifier.PUBLIC);
      seen.add(told(method));
      taken.add(method.getName());
    }
    CHECKS.due("the face " + seen, seen.equals(FACE), true);
    for (Constructor<?> constructor : type.getDeclaredConstructors()) {
      CHECKS.due(constructor.toString(), constructor.getParameterCount(), 0);
      CHECKS.due(constructor.toString(), constructor.getModifiers(), Modifier.PUBLIC);
    }
    for (Field field : type.getDeclaredFields()) {
      CHECKS.due("private: " + field, Modifier.isPrivate(field.getModifiers()), true);
    }
    members(type, taken);
    for (Class<?> inner : type.getDeclaredClasses()) {
      CHECKS.due("static: " + inner, Modifier.isStatic(inner.getModifiers()), true);
      CHECKS.due("not public: " + inner, Modifier.isPublic(inner.getModifiers()), false);
      members(inner, taken);
    }
    CHECKS.end("FaceTest");
  }
}
