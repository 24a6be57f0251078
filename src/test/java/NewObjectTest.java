/** Promise 1: what a new object answers. */
public final class NewObjectTest {
  public static void main(String[] args) {
    GuardedMoves x = new GuardedMoves();
    int[] counts = {0, 0, 16, 0, 0, 0, 0, -1, 0};
    for (int what = 0; what < counts.length; what++) {
      Check.due("count(" + what + ")", x.count(what), counts[what]);
    }
    Check.due("fault()", x.fault(), 0);
    Check.index("statement(0, 0)", () -> x.statement(0, 0));
    Check.index("step(0, 0)", () -> x.step(0, 0));
    Check.index("output(0)", () -> x.output(0));
    Check.state("run()", () -> x.run());
    Check.due("trim()", x.trim(), 0);
    allZero(x);
    Check.due("tell()", x.tell(), 0);
    allZero(x);
    Check.due("lower(0)", x.lower(0), 0);
    Check.due("run()", x.run(), 0);
    allZero(x);
    twoObjectsAreApart();
    Check.end();
  }

  private static void allZero(GuardedMoves x) {
    for (int v = 0; v < 16; v++) {
      Check.due("left(" + v + ")", x.left(v), 0);
    }
    for (int i = 0; i < 32; i++) {
      Check.due("kept(" + i + ")", x.kept(i), 0);
    }
  }

  private static void twoObjectsAreApart() {
    GuardedMoves x = Check.lowered("!a;", 0);
    GuardedMoves y = new GuardedMoves();
    x.variable(0, 7);
    x.run();
    Check.due("left(0) of another", y.left(0), 0);
    Check.due("count(0) of another", y.count(0), 0);
  }
}
