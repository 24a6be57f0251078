import java.util.List;
import java.util.Random;

/** Made-up texts, good ones and broken ones: what the class answers is what the document, written down again, asks. */
public final class AsWrittenTest {
  private static final String BYTES = "abcdefghijklmnopqz@!?=#<+-*/%&|^;{}0123456789 \n\t\r\0~\u0080\u00FF";
  private static final String[] PARTS = {
    "2147483647", "2147483648", "99999999999999999999", "-2147483648", "00000000000000000007", "?a<b{", "}", "{}", "}{",
    ";;", "a=b;", "!1;", "--", "@", "a=", "?0=0{?0=0{?0=0{?0=0{?0=0{?0=0{?0=0{}}}}}}}", " ", "\n", "1 2"
  };

  private final MadeUp madeUp = new MadeUp(20261116L);
  private final Random random = madeUp.random;

  public static void main(String[] args) {
    AsWrittenTest test = new AsWrittenTest();
    for (int i = 0; i < 2500; i++) {
      String text = test.spaced(test.madeUp.text());
      test.asWritten(text);
      test.asFound(text);
      test.asFound(test.broken(text, 1));
      test.asFound(test.broken(text, 2 + test.random.nextInt(6)));
      test.asFound(test.filledUp(text));
    }
    Check.end();
  }

  /** Blanks and line ends in some places, but not within a NUMBER. */
  private String spaced(String text) {
    StringBuilder all = new StringBuilder();
    int seldom = 1 + random.nextInt(40);
    for (int i = 0; i < text.length(); i++) {
      boolean within = i > 0 && Character.isDigit(text.charAt(i)) && Character.isDigit(text.charAt(i - 1));
      int room = 600 - (text.length() - i) - all.length();
      if (!within && room > 0 && random.nextInt(seldom) == 0) {
        all.append(random.nextBoolean() ? ' ' : '\n');
      }
      all.append(text.charAt(i));
    }
    return all.toString();
  }

  private String broken(String text, int times) {
    StringBuilder all = new StringBuilder(text);
    for (int i = 0; i < times; i++) {
      int at = random.nextInt(all.length() + 1);
      switch (random.nextInt(5)) {
        case 0: all.insert(at, BYTES.charAt(random.nextInt(BYTES.length()))); break;
        case 1: all.insert(at, PARTS[random.nextInt(PARTS.length)]); break;
        case 2: all.setLength(at); break;
        case 3: all.delete(at, Math.min(all.length(), at + 1)); break;
        default:
          all.replace(at, Math.min(all.length(), at + 1), BYTES.substring(random.nextInt(BYTES.length())).substring(0, 1));
          break;
      }
    }
    return all.substring(0, Math.min(600, all.length()));
  }

  /** With more statements behind it, ahead of it or in it than there may be. */
  private String filledUp(String text) {
    String more = Check.repeat("!" + random.nextInt(10) + ";", 60);
    int at = random.nextBoolean() ? text.length() : Math.max(0, text.indexOf('{') + 1);
    String all = text.substring(0, at) + more + text.substring(at);
    return all.substring(0, Math.min(600, all.length()));
  }

  private void asFound(String text) {
    GuardedMoves x = Check.fed(text);
    Grammar found = new Grammar(text);
    int statements = x.read();
    Check.due("fault() of " + text, x.fault(), found.fault);
    Check.due("read() of " + text, statements, found.fault == 0 ? x.count(0) : -1 - found.place);
    Check.due("count(6) of " + text, x.count(6), found.fault == 0 ? 0 : text.length());
    if (found.fault == 0) {
      told(text, x, new AsWritten(text));
    } else {
      Check.due("count(0) of " + text, x.count(0), 0);
    }
  }

  private void told(String text, GuardedMoves x, AsWritten written) {
    Check.due("count(0) of " + text, x.count(0), written.all.size());
    for (AsWritten.Told told : written.all) {
      Check.due("statement(" + told.number + ", 0) of " + text, x.statement(told.number, 0), told.sort);
      Check.due("statement(" + told.number + ", 1) of " + text, x.statement(told.number, 1), told.depth);
    }
  }

  private void asWritten(String text) {
    AsWritten written = new AsWritten(text);
    for (int limit : new int[] {0, random.nextInt(12), random.nextInt(60), random.nextInt(401), 400}) {
      GuardedMoves x = Check.of(text);
      written.lower(limit);
      Check.due("lower(" + limit + ") of " + text, x.lower(limit), written.steps.size());
      Check.due("count(2) of " + text + " with " + limit, x.count(2), written.registers);
      Check.due("code of " + text + " with " + limit, Check.rows(x), rows(written.steps));
      int converted = 0;
      for (AsWritten.Told told : written.all) {
        converted += told.converted ? 1 : 0;
        Check.due("statement(" + told.number + ", 2) of " + text + " with " + limit,
            x.statement(told.number, 2), told.converted ? 1 : 0);
        Check.due("statement(" + told.number + ", 3) of " + text + " with " + limit,
            (long) x.statement(told.number, 3), written.steps.stream().filter(row -> row[5] == told.number).count());
      }
      Check.due("count(4) of " + text + " with " + limit, x.count(4), converted);
      runs(text, x, written);
    }
  }

  private static String rows(List<int[]> steps) {
    StringBuilder all = new StringBuilder();
    for (int[] step : steps) {
      for (int number : step) {
        all.append(number).append(' ');
      }
    }
    return all.toString();
  }

  private void runs(String text, GuardedMoves x, AsWritten written) {
    int[] variables = new int[16];
    int[] words = new int[32];
    for (int v = 0; v < 16; v++) {
      variables[v] = madeUp.number();
      x.variable(v, variables[v]);
    }
    for (int w = 0; w < 32; w++) {
      words[w] = madeUp.number();
      x.word(w, words[w]);
    }
    RunAsWritten told = new RunAsWritten(variables, words);
    told.text(written.outermost);
    Check.due("tell() of " + text, x.tell(), told.ended);
    Check.due("what tell() left of " + text, Check.run(x, told.ended), told.all());
    RunAsWritten run = new RunAsWritten(variables, words);
    run.code(written.steps);
    Check.due("run() of " + text, x.run(), run.ended);
    Check.due("what run() left of " + text, Check.run(x, run.ended), run.all());
  }
}
