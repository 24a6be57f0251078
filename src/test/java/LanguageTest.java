import java.io.IOException;
import java.lang.reflect.Field;
import java.lang.reflect.Method;
import java.lang.reflect.Modifier;
import java.nio.file.Files;
import java.nio.file.Path;
import java.util.ArrayList;
import java.util.HashSet;
import java.util.List;
import java.util.Set;
import java.util.regex.Matcher;
import java.util.regex.Pattern;

/** Rules of LANGUAGE.md, by their numbers, as far as the class itself and the words of its source show them. */
public final class LanguageTest {
  private static final Set<String> LIBRARY = Set.of("Math.max", "Math.min", "System.arraycopy", "Arrays.fill");
  private static final Pattern LIBRARY_CALL =
      Pattern.compile("\\b(Math|System|Arrays|Integer|Long|Character|Objects|Thread|List|Boolean|String)\\.\\w+");
  private static final Pattern MADE = Pattern.compile("\\bnew (\\w+)");

  public static void main(String[] args) throws IOException {
    List<Class<?>> classes = new ArrayList<>(List.of(GuardedMoves.class.getDeclaredClasses()));
    for (Class<?> inside : classes) {
      boolean fits = Modifier.isPrivate(inside.getModifiers()) && Modifier.isStatic(inside.getModifiers());
      Check.due("rule 1: private and static: " + inside.getName(), fits, true);
    }
    classes.add(GuardedMoves.class);
    Check.due("rule 11: classes", classes.size() <= 12, true);
    Set<String> open = openNames();
    for (Class<?> one : classes) {
      methods(one, open);
      fields(one);
    }
    source(Files.readString(Path.of("src/main/java/GuardedMoves.java")));
    Check.end();
  }

  private static Set<String> openNames() {
    Set<String> names = new HashSet<>();
    for (Method method : GuardedMoves.class.getDeclaredMethods()) {
      if (Modifier.isPublic(method.getModifiers())) {
        names.add(method.getName());
      }
    }
    return names;
  }

  private static void methods(Class<?> one, Set<String> open) {
    for (Method method : one.getDeclaredMethods()) {
      String name = one.getName() + "." + method.getName();
      boolean face = one == GuardedMoves.class && Modifier.isPublic(method.getModifiers());
      Check.due("rule 1: a public one's name: " + name, !face && open.contains(method.getName()), false);
      Check.due("rule 11: parameters of " + name, method.getParameterCount() <= 7, true);
      Check.due("rule 2: made by the compiler, as of a lambda: " + name, method.isSynthetic(), false);
    }
  }

  private static void fields(Class<?> one) {
    int own = 0;
    for (Field field : one.getDeclaredFields()) {
      boolean isStatic = Modifier.isStatic(field.getModifiers());
      boolean constant = isStatic && Modifier.isFinal(field.getModifiers());
      Check.due("rule 5: " + one.getName() + "." + field.getName(), !isStatic || constant, true);
      own += isStatic ? 0 : 1;
    }
    Check.due("rule 11: fields of " + one.getName(), own <= 20, true);
  }

  private static void source(String whole) {
    String words = whole.replaceAll("(?s)/\\*.*?\\*/", "").replaceAll("//[^\n]*", "").replaceAll("\"[^\"\n]*\"", "\"\"");
    for (String never : new String[] {"finally", "synchronized", "assert", "package", "getMessage", "hashCode", "toString"}) {
      Check.due("a rule is against " + never, Pattern.compile("\\b" + never + "\\b").matcher(words).find(), false);
    }
    Check.due("rule 2: no lambda, no method reference", words.contains("->") || words.contains("::"), false);
    Check.due("rule 4: imports", words.replaceAll("(?s)^\\s*import java\\.util\\.Arrays;", "").contains("import"), false);
    for (Matcher call = LIBRARY_CALL.matcher(words); call.find();) {
      Check.due("rule 4: " + call.group(), LIBRARY.contains(call.group()), true);
    }
    for (Matcher made = MADE.matcher(words); made.find();) {
      // rows and parts are made with the object alone, so what a call makes is an exception at most
      String line = words.substring(words.lastIndexOf('\n', made.start()) + 1, words.indexOf('\n', made.start()));
      boolean thrown = line.trim().startsWith("throw new ");
      boolean field = line.matches(" {4,8}(private |final |static )*[\\w\\[\\]]+ \\w+ = new .*");
      Check.due("rule 12: " + line.trim(), thrown || field, true);
    }
    Check.due("rule 3: bytes other than those of plain signs", words.chars().allMatch(c -> c == '\n' || c >= 32 && c < 127), true);
  }
}
