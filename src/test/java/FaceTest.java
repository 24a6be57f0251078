import java.lang.reflect.Constructor;
import java.lang.reflect.Field;
import java.lang.reflect.Method;
import java.lang.reflect.Modifier;
import java.util.Arrays;
import java.util.TreeSet;

/** The public face: what the document lists, and nothing else that another class could see. */
public final class FaceTest {
  private static final String[] METHODS = {
    "void variable(int, int) IndexOutOfBoundsException",
    "void word(int, int) IndexOutOfBoundsException",
    "int feed(long, int) IllegalArgumentException, IllegalStateException",
    "int read()",
    "int fault()",
    "int statement(int, int) IndexOutOfBoundsException, IllegalArgumentException",
    "int lower(int) IllegalArgumentException",
    "int trim()",
    "int step(int, int) IndexOutOfBoundsException, IllegalArgumentException",
    "int tell()",
    "int run() IllegalStateException",
    "int left(int) IndexOutOfBoundsException",
    "int kept(int) IndexOutOfBoundsException",
    "int output(int) IndexOutOfBoundsException",
    "int count(int) IllegalArgumentException"
  };

  public static void main(String[] args) {
    Class<?> face = GuardedMoves.class;
    Check.due("public final", Modifier.isPublic(face.getModifiers()) && Modifier.isFinal(face.getModifiers()), true);
    Check.due("methods", methods(face), new TreeSet<>(Arrays.asList(METHODS)));
    Check.due("fields", fields(face), new TreeSet<>(Arrays.asList("public static final int NONE")));
    Constructor<?>[] made = face.getDeclaredConstructors();
    Check.due("constructors", made.length, 1);
    Check.due("constructor", made[0].toString(), "public GuardedMoves()");
    Check.due("NONE", GuardedMoves.NONE, -1);
    Check.end();
  }

  private static TreeSet<String> methods(Class<?> face) {
    TreeSet<String> found = new TreeSet<>();
    for (Method m : face.getDeclaredMethods()) {
      if (!Modifier.isPrivate(m.getModifiers()) && !m.isSynthetic()) {
        String named = m.getReturnType().getName() + " " + m.getName() + "(" + names(m.getParameterTypes()) + ")";
        found.add((named + " " + names(m.getExceptionTypes())).trim());
      }
    }
    return found;
  }

  private static String names(Class<?>[] types) {
    return String.join(", ", Arrays.stream(types).map(Class::getSimpleName).toArray(String[]::new));
  }

  private static TreeSet<String> fields(Class<?> face) {
    TreeSet<String> found = new TreeSet<>();
    for (Field f : face.getDeclaredFields()) {
      if (!Modifier.isPrivate(f.getModifiers()) && !f.isSynthetic()) {
        found.add(Modifier.toString(f.getModifiers()) + " " + f.getType().getName() + " " + f.getName());
      }
    }
    return found;
  }
}
