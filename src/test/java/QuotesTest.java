import java.io.IOException;
import java.nio.file.DirectoryStream;
import java.nio.file.Files;
import java.nio.file.Path;
import java.util.ArrayList;
import java.util.Arrays;
import java.util.List;
import java.util.regex.Matcher;
import java.util.regex.Pattern;

/** Sentences that tests and README.md name stand in the document, and beside each of its sentences stands a test. */
public final class QuotesTest {
  private static final Pattern SENTENCE = Pattern.compile("Check\\.sentence\\(\\s*\"((?:[^\"\\\\]|\\\\.)*)\"");
  // What joins two quoted parts of a sentence, such as "On a side:", has no more words.
  private static final int JOINING_WORDS = 3;

  public static void main(String[] args) throws IOException {
    Path file = Path.of("../shared/DOC.md");
    if (!Files.exists(file)) {
      System.out.println("there is no " + file + " to look into");
      return;
    }
    String document = oneLine(Files.readString(file));
    boolean[] quoted = new boolean[document.length()];
    for (String words : sentences()) {
      int at = document.indexOf(words);
      Check.due("\"" + words + "\" stands in the document", at >= 0, true);
      for (; at >= 0; at = document.indexOf(words, at + 1)) {
        Arrays.fill(quoted, at, at + words.length(), true);
      }
    }
    for (String words : sentencesOfReadme()) {
      Check.due("\"" + words + "\" of README.md stands in the document", document.contains(words), true);
    }
    for (String words : unquoted(document, quoted)) {
      if (words.replaceAll("\\W+", " ").trim().split(" ").length > JOINING_WORDS) {
        Check.due("a test beside \"" + words + "\"", false, true);
      }
    }
    Check.end();
  }

  private static String oneLine(String text) {
    return text.replaceAll("\\s+", " ");
  }

  private static List<String> sentences() throws IOException {
    List<String> found = new ArrayList<>();
    try (DirectoryStream<Path> files = Files.newDirectoryStream(Path.of("src/test/java"), "*Test.java")) {
      for (Path file : files) {
        // a long sentence stands on several lines, joined by +
        String source = Files.readString(file).replaceAll("\"\\s*\\+\\s*\"", "");
        for (Matcher fits = SENTENCE.matcher(source); fits.find();) {
          found.add(oneLine(fits.group(1)));
        }
      }
    }
    return found;
  }

  private static List<String> sentencesOfReadme() throws IOException {
    List<String> found = new ArrayList<>();
    String readme = Files.readString(Path.of("README.md"));
    int from = readme.indexOf("## What the document says");
    Check.due("README.md says what the document says", from >= 0, true);
    for (Matcher fits = Pattern.compile("\"([^\"]+)\"").matcher(readme.substring(Math.max(0, from))); fits.find();) {
      found.add(oneLine(fits.group(1)));
    }
    return found;
  }

  /** The rows of words between quoted ones, the face, headings and what is not promised apart. */
  private static List<String> unquoted(String document, boolean[] quoted) {
    StringBuilder left = new StringBuilder();
    for (int i = 0; i < document.length(); i++) {
      left.append(quoted[i] ? '\0' : document.charAt(i));
    }
    String words = left.toString()
        .replaceAll("# GuardedMoves ## What it is", "\0")
        .replaceAll("## The public face .*? ## Terms", "\0")
        .replaceAll("## Promise \\d+: [^`]*`[^`]*`:", "\0")
        .replaceAll("## Not promised .*", "\0");
    return List.of(words.split("\0+"));
  }
}
