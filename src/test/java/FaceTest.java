import java.lang.reflect.Constructor;
import java.lang.reflect.Field;
import java.lang.reflect.Method;
import java.lang.reflect.Modifier;
import java.util.Arrays;
import java.util.TreeSet;

/** The public face: what the document lists, and nothing else that another class could see. */
public final class FaceTest {
  /** The lines of the document's face as they stand there. */
  private static final String[] METHODS = {
    "public void variable(int v, int number) throws IndexOutOfBoundsException;",
    "public void word(int i, int number) throws IndexOutOfBoundsException;",
    "public int feed(long bytes, int n) throws IllegalArgumentException, IllegalStateException;",
    "public int read();",
    "public int fault();",
    "public int statement(int s, int what) throws IndexOutOfBoundsException, IllegalArgumentException;",
    "public int lower(int limit) throws IllegalArgumentException;",
    "public int trim();",
    "public int step(int i, int what) throws IndexOutOfBoundsException, IllegalArgumentException;",
    "public int tell();",
    "public int run() throws IllegalStateException;",
    "public int left(int v) throws IndexOutOfBoundsException;",
    "public int kept(int i) throws IndexOutOfBoundsException;",
    "public int output(int i) throws IndexOutOfBoundsException;",
    "public int count(int what) throws IllegalArgumentException;"
  };

  public static void main(String[] args) {
    Class<?> face = GuardedMoves.class;
    Check.due("public final", Modifier.isPublic(face.getModifiers()) && Modifier.isFinal(face.getModifiers()), true);
    TreeSet<String> due = new TreeSet<>();
    for (String line : METHODS) {
      // a class that was made holds no names of parameters
      due.add(line.replaceAll("(int|long) \\w+([,)])", "$1$2"));
    }
    Check.due("methods", methods(face), due);
    Check.due("fields", fields(face), new TreeSet<>(Arrays.asList("public static final int NONE")));
    Constructor<?>[] made = face.getDeclaredConstructors();
    Check.due("constructors", made.length, 1);
    Check.due("constructor", made[0].toString(), "public GuardedMoves()");
    Check.due("NONE", GuardedMoves.NONE, -1);
    Check.end();
  }

  private static TreeSet<String> methods(Class<?> face) {
    TreeSet<String> found = new TreeSet<>();
    for (Method m : face.getDeclaredMethods()) {
      if (!Modifier.isPrivate(m.getModifiers()) && !m.isSynthetic()) {
        String thrown = names(m.getExceptionTypes());
        found.add(Modifier.toString(m.getModifiers()) + " " + m.getReturnType().getName() + " " + m.getName() + "("
            + names(m.getParameterTypes()) + ")" + (thrown.isEmpty() ? "" : " throws " + thrown) + ";");
      }
    }
    return found;
  }

  private static String names(Class<?>[] types) {
    return String.join(", ", Arrays.stream(types).map(Class::getSimpleName).toArray(String[]::new));
  }

  private static TreeSet<String> fields(Class<?> face) {
    TreeSet<String> found = new TreeSet<>();
    for (Field f : face.getDeclaredFields()) {
      if (!Modifier.isPrivate(f.getModifiers()) && !f.isSynthetic()) {
        found.add(Modifier.toString(f.getModifiers()) + " " + f.getType().getName() + " " + f.getName());
      }
    }
    return found;
  }
}
