/** Texts told, lowered with jumps, converted, and trimmed: all of these must do the same. */
final class Both {
  private static final int[] LIMITS = {0, 4, 7, 400};

  private Both() {
  }

  private static GuardedMoves put(String text, int a, int b) {
    GuardedMoves x = Check.of(text);
    x.variable(0, a);
    x.variable(1, b);
    return x;
  }

  /** The text ends well, with this OUTPUT. */
  static void says(String text, int a, int b, Integer... want) {
    GuardedMoves x = put(text, a, b);
    String call = text + " with " + a + " and " + b;
    Check.due("tell() of " + call, x.tell(), 0);
    output("told " + call, x, want);
    for (int limit : LIMITS) {
      x.lower(limit);
      Check.due("run() of " + call + ", " + limit, x.run(), 0);
      output("run " + call + ", " + limit, x, want);
      x.trim();
      Check.due("trimmed run() of " + call + ", " + limit, x.run(), 0);
      output("trimmed " + call + ", " + limit, x, want);
    }
  }

  private static void output(String call, GuardedMoves x, Integer[] want) {
    Check.due("count(5) " + call, x.count(5), want.length);
    for (int i = 0; i < Math.min(want.length, x.count(5)); i++) {
      Check.due("output(" + i + ") " + call, x.output(i), want[i]);
    }
    Check.due("count(7) " + call, x.count(7), -1);
  }

  /** The text ends so, in this statement, with so many numbers in the OUTPUT. */
  static void ends(String text, int a, int b, int how, int where, int outputs) {
    GuardedMoves x = put(text, a, b);
    String call = text + " with " + a + " and " + b;
    Check.due("tell() of " + call, x.tell(), how);
    where(call, x, where, outputs);
    for (int limit : LIMITS) {
      x.lower(limit);
      Check.due("run() of " + call + ", " + limit, x.run(), how);
      where(call, x, where, outputs);
      x.trim();
      Check.due("trimmed run() of " + call + ", " + limit, x.run(), how);
      where(call, x, where, outputs);
    }
  }

  private static void where(String call, GuardedMoves x, int where, int outputs) {
    Check.due("count(7) of " + call, x.count(7), where);
    Check.due("count(5) of " + call, x.count(5), outputs);
  }

  /** c = a OP b, as it is and on each side of a ? that is meant. */
  static void operation(String op, int a, int b, int want) {
    says("c=a" + op + "b;!c;", a, b, want);
    says("?a=a{c=a" + op + "b;}!c;", a, b, want);
    says("?a#a{}{c=a" + op + "b;}!c;", a, b, want);
  }
}
