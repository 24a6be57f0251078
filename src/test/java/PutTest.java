/** Promises 2 and 3: variables and words are put, runs begin with them and leave them alone. */
public final class PutTest {
  private static final int[] WRONG = {-1, 32, 33, Integer.MIN_VALUE, Integer.MAX_VALUE};

  public static void main(String[] args) {
    GuardedMoves x = Check.lowered("a=a+1;@0=a;@31=p;", 0);
    for (int v = 0; v < 16; v++) {
      x.variable(v, 100 + v);
    }
    for (int i = 0; i < 32; i++) {
      x.word(i, 200 + i);
    }
    Check.due("left(0) before any", x.left(0), 0);
    Check.due("kept(0) before any", x.kept(0), 0);
    for (int round = 0; round < 2; round++) {
      x.tell();
      look(x);
      x.run();
      look(x);
    }
    x.variable(0, Integer.MIN_VALUE);
    x.variable(0, Integer.MAX_VALUE);
    x.word(5, Integer.MIN_VALUE);
    Check.due("left(0) as before", x.left(0), 101);
    Check.due("kept(5) as before", x.kept(5), 205);
    x.tell();
    Check.due("left(0) wrapped", x.left(0), Integer.MIN_VALUE);
    Check.due("kept(5)", x.kept(5), Integer.MIN_VALUE);
    wrongPlaces(x);
    Check.end();
  }

  private static void look(GuardedMoves x) {
    Check.due("left(0)", x.left(0), 101);
    Check.due("kept(0)", x.kept(0), 101);
    Check.due("kept(31)", x.kept(31), 115);
    for (int v = 1; v < 16; v++) {
      Check.due("left(" + v + ")", x.left(v), 100 + v);
    }
    for (int i = 1; i < 31; i++) {
      Check.due("kept(" + i + ")", x.kept(i), 200 + i);
    }
  }

  private static void wrongPlaces(GuardedMoves x) {
    for (int wrong : WRONG) {
      Check.index("variable(" + wrong + ", 1)", () -> x.variable(wrong, 1));
      Check.index("word(" + wrong + ", 1)", () -> x.word(wrong, 1));
    }
    Check.index("variable(16, 1)", () -> x.variable(16, 1));
  }
}
