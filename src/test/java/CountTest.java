/** Promise 16: what is counted. */
public final class CountTest {
  public static void main(String[] args) {
    GuardedMoves x = Check.of("?a<b{c=1;?c<d{}}{d=2;!d;}?a=0{e=1;}e=a/e;");
    counts(x, 8, 0, 16, 0, 0, 0, 0, -1, 0);
    x.lower(0);
    counts(x, 8, 13, 20, 4, 0, 0, 0, -1, 0);
    x.lower(400);
    counts(x, 8, 13, 22, 2, 2, 0, 0, -1, 0);
    Check.due("tell()", x.tell(), 0);
    counts(x, 8, 13, 22, 2, 2, 1, 0, -1, 6);
    x.variable(0, 1);
    Check.feed(x, "?a<b{");
    Check.due("tell()", x.tell(), 1);
    counts(x, 8, 13, 22, 2, 2, 1, 5, 7, 5);
    x.read();
    counts(x, 8, 13, 22, 2, 2, 1, 5, 7, 5);
    Check.due("run()", x.run(), 1);
    counts(x, 8, 13, 22, 2, 2, 1, 5, 7, 10);
    Check.due("trim()", x.trim(), 1);
    counts(x, 8, 12, 22, 2, 2, 1, 5, 7, 10);
    x.variable(1, 2);
    x.variable(4, 1);
    Check.due("run()", x.run(), 0);
    counts(x, 8, 12, 22, 2, 2, 0, 5, -1, 10);
    Check.due("tell()", x.tell(), 0);
    counts(x, 8, 12, 22, 2, 2, 0, 5, -1, 5);
    Check.feed(x, "}");
    x.read();
    counts(x, 1, 0, 16, 0, 0, 0, 0, -1, 5);
    wrongOnes(x);
    Check.end();
  }

  private static void counts(GuardedMoves x, int... due) {
    for (int what = 0; what < due.length; what++) {
      Check.due("count(" + what + ")", x.count(what), due[what]);
    }
  }

  private static void wrongOnes(GuardedMoves x) {
    int[] what = {-1, 9, 10, Integer.MIN_VALUE, Integer.MAX_VALUE};
    for (int wrong : what) {
      Check.argument("count(" + wrong + ")", () -> x.count(wrong));
    }
  }
}
