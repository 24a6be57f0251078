import java.nio.charset.StandardCharsets;

/** What the tests share: comparing answers, feeding texts, and showing code. */
final class Check {
  private static final String[] CODES = {
    "SET", "MOVE", "+", "-", "*", "/", "%", "&", "|", "^", "=", "#", "<",
    "CHOOSE", "LOAD", "STORE", "JUMP", "JUMPNOT", "TELL"
  };
  private static final int[] NUMBERS = {2, 2, 3, 3, 3, 3, 3, 3, 3, 3, 3, 3, 3, 4, 2, 2, 1, 2, 1};

  private static int wrong = 0;
  private static String sentence = "";

  private Check() {
  }

  interface Call {
    void make();
  }

  /** What is checked from now on stands in the document with these words. */
  static void sentence(String words) {
    sentence = "\"" + words + "\": ";
  }

  static void due(String call, Object got, Object want) {
    if (!want.equals(got)) {
      wrong++;
      System.out.println(sentence + call + " answered " + got + ", due is " + want);
    }
  }

  static void index(String call, Call made) {
    throwing(call, made, IndexOutOfBoundsException.class);
  }

  static void argument(String call, Call made) {
    throwing(call, made, IllegalArgumentException.class);
  }

  static void state(String call, Call made) {
    throwing(call, made, IllegalStateException.class);
  }

  static void throwing(String call, Call made, Class<?> want) {
    Object got = "nothing";
    try {
      made.make();
    } catch (RuntimeException e) {
      got = e.getClass();
    }
    due(call + " throws", got, want);
  }

  static void end() {
    if (wrong != 0) {
      System.out.println(wrong + " answers are not as due");
      System.exit(1);
    }
  }

  static void feed(GuardedMoves x, String text) {
    byte[] bytes = text.getBytes(StandardCharsets.ISO_8859_1);
    for (int at = 0; at < bytes.length; at += 8) {
      int n = Math.min(8, bytes.length - at);
      long number = 0;
      for (int i = 0; i < n; i++) {
        number = number << 8 | bytes[at + i] & 255;
      }
      x.feed(number, n);
    }
  }

  static GuardedMoves fed(String text) {
    GuardedMoves x = new GuardedMoves();
    feed(x, text);
    return x;
  }

  static GuardedMoves of(String text) {
    GuardedMoves x = fed(text);
    int statements = x.read();
    if (statements < 0) {
      due("read() of " + text, statements, "no fault");
    }
    return x;
  }

  static GuardedMoves lowered(String text, int limit) {
    GuardedMoves x = of(text);
    x.lower(limit);
    return x;
  }

  static void good(String text, int statements) {
    GuardedMoves x = fed(text);
    due("read() of " + text, x.read(), statements);
    due("fault() of " + text, x.fault(), 0);
    due("count(0) of " + text, x.count(0), statements);
    due("count(6) of " + text, x.count(6), 0);
  }

  static void bad(String text, int fault, int place) {
    GuardedMoves x = fed(text);
    due("read() of " + text, x.read(), -1 - place);
    due("fault() of " + text, x.fault(), fault);
    due("count(0) of " + text, x.count(0), 0);
    due("count(6) of " + text, x.count(6), text.length());
  }

  /** All that can be asked of an object without changing it, in one row; fault() apart. */
  static String answers(GuardedMoves x) {
    StringBuilder all = new StringBuilder(code(x));
    for (int s = 0; s < x.count(0); s++) {
      for (int what = 0; what < 4; what++) {
        all.append(what == 0 ? ", " : " ").append(x.statement(s, what));
      }
    }
    for (int what = 0; what < 9; what++) {
      all.append(", count ").append(x.count(what));
    }
    return all + left(x);
  }

  /** What the latest run left: the VARIABLES, THE MEMORY and the OUTPUT. */
  static String left(GuardedMoves x) {
    StringBuilder all = new StringBuilder(", left");
    for (int v = 0; v < 16; v++) {
      all.append(' ').append(x.left(v));
    }
    all.append(", kept");
    for (int i = 0; i < 32; i++) {
      all.append(' ').append(x.kept(i));
    }
    all.append(", output");
    for (int i = 0; i < x.count(5); i++) {
      all.append(' ').append(x.output(i));
    }
    return all.toString();
  }

  /** What the latest run left, and how, where and behind how many it ended. */
  static String run(GuardedMoves x, int ended) {
    return left(x) + ", ended " + ended + " in " + x.count(7) + " behind " + x.count(8);
  }

  /** The whole code, all six numbers of each step. */
  static String rows(GuardedMoves x) {
    StringBuilder all = new StringBuilder();
    for (int i = 0; i < x.count(1); i++) {
      for (int what = 0; what < 6; what++) {
        all.append(x.step(i, what)).append(' ');
      }
    }
    return all.toString();
  }

  /** The whole code, a row a step: its name, its numbers, and the statement behind a colon. */
  static String code(GuardedMoves x) {
    StringBuilder all = new StringBuilder();
    for (int i = 0; i < x.count(1); i++) {
      int code = x.step(i, 0);
      all.append(i == 0 ? "" : ", ").append(CODES[code]);
      for (int what = 1; what <= 4; what++) {
        if (what <= NUMBERS[code]) {
          all.append(' ').append(x.step(i, what));
        } else {
          due("step(" + i + ", " + what + ") that there is not", x.step(i, what), 0);
        }
      }
      all.append(" :").append(x.step(i, 5));
    }
    return all.toString();
  }

  static void code(String text, int limit, String want) {
    due("code of " + text + " with " + limit, code(lowered(text, limit)), want);
  }

  static String repeat(String part, int times) {
    return part.repeat(times);
  }
}
