/** Promise 7: what is told of a statement. */
public final class StatementTest {
  private static final String TEXT = "a=1;a=b+1;a=@b;@a=b;?a<b{?c=d{a=2;}{?e#f{}}}{!a;}?a=b{c=1;}!b;";

  public static void main(String[] args) {
    GuardedMoves x = Check.of(TEXT);
    Check.due("count(0)", x.count(0), 12);
    row(x, 0, 0, 1, 2, 3, 5, 5, 0, 5, 4, 5, 0, 4);
    row(x, 1, 0, 0, 0, 0, 0, 1, 2, 2, 1, 0, 1, 0);
    row(x, 2, 0, 0, 0, 0, 0, 0, 0, 0, 0, 0, 0, 0);
    row(x, 3, 0, 0, 0, 0, 0, 0, 0, 0, 0, 0, 0, 0);
    x.lower(0);
    row(x, 2, 0, 0, 0, 0, 0, 0, 0, 0, 0, 0, 0, 0);
    row(x, 3, 1, 2, 1, 1, 3, 3, 1, 2, 1, 2, 1, 1);
    x.lower(400);
    row(x, 2, 0, 0, 0, 0, 0, 1, 0, 1, 0, 1, 0, 0);
    row(x, 3, 1, 2, 1, 1, 3, 5, 1, 1, 1, 3, 1, 1);
    x.trim();
    row(x, 3, 1, 2, 1, 1, 3, 3, 1, 0, 1, 3, 1, 1);
    x.lower(3);
    row(x, 2, 0, 0, 0, 0, 0, 0, 0, 1, 0, 0, 0, 0);
    wrongOnes(x);
    Check.end();
  }

  private static void row(GuardedMoves x, int what, int... due) {
    for (int s = 0; s < due.length; s++) {
      Check.due("statement(" + s + ", " + what + ")", x.statement(s, what), due[s]);
    }
  }

  private static void wrongOnes(GuardedMoves x) {
    int[] none = {-1, 12, 60, Integer.MIN_VALUE, Integer.MAX_VALUE};
    int[] what = {-1, 4, 5, Integer.MIN_VALUE, Integer.MAX_VALUE};
    for (int wrong : none) {
      Check.index("statement(" + wrong + ", 0)", () -> x.statement(wrong, 0));
      Check.index("statement(" + wrong + ", 4)", () -> x.statement(wrong, 4));
    }
    for (int wrong : what) {
      Check.argument("statement(0, " + wrong + ")", () -> x.statement(0, wrong));
    }
  }
}
