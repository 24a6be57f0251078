import java.io.IOException;
import java.lang.reflect.Method;
import java.lang.reflect.Modifier;
import java.nio.file.Files;
import java.nio.file.Path;
import java.util.ArrayList;
import java.util.List;
import java.util.regex.Matcher;
import java.util.regex.Pattern;

/** Makes a test of the Java lines of README.md: ReadmeProgram README.md directory writes ReadmeTest.java there. */
public final class ReadmeProgram {
  private static final Pattern ANSWERED = Pattern.compile("(.*\\)); *// (-?[0-9]+)\\b.*");
  private static final Pattern THROWN = Pattern.compile("(.*\\)); *// throws (\\w+)");

  public static void main(String[] args) throws IOException {
    List<String> lines = javaLines(Files.readAllLines(Path.of(args[0])));
    List<String> program = new ArrayList<>();
    program.add("public final class ReadmeTest {");
    program.add("  public static void main(String[] args) {");
    for (String line : lines) {
      program.add(checked(line));
    }
    for (Method method : GuardedMoves.class.getDeclaredMethods()) {
      if (Modifier.isPublic(method.getModifiers())) {
        boolean used = lines.stream().anyMatch(line -> line.contains("." + method.getName() + "("));
        program.add("Check.due(\"README.md uses " + method.getName() + "\", " + used + ", true);");
      }
    }
    program.add("    Check.end();");
    program.add("  }");
    program.add("}");
    Files.write(Path.of(args[1], "ReadmeTest.java"), program);
  }

  private static List<String> javaLines(List<String> all) {
    List<String> found = new ArrayList<>();
    boolean within = false;
    for (String line : all) {
      if (line.startsWith("```")) {
        within = line.equals("```java");
      } else if (within) {
        found.add(line);
      }
    }
    return found;
  }

  /** The line as it stands, and what is due of it if that stands behind it. */
  private static String checked(String line) {
    Matcher thrown = THROWN.matcher(line);
    if (thrown.matches()) {
      String call = thrown.group(1);
      return "Check.throwing(" + quoted(call) + ", () -> " + call + ", " + thrown.group(2) + ".class);";
    }
    Matcher answered = ANSWERED.matcher(line);
    if (answered.matches()) {
      String call = answered.group(1);
      return "Check.due(" + quoted(call) + ", " + call + ", " + answered.group(2) + ");";
    }
    return line;
  }

  private static String quoted(String call) {
    return "\"README.md: " + call.replace("\\", "\\\\").replace("\"", "\\\"") + "\"";
  }
}
