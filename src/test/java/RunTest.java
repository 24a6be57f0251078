/** Promises 12 to 15: code is run, and what the latest run left is told. */
public final class RunTest {
  public static void main(String[] args) {
    needsCode();
    leftByText();
    leftWithinConverted();
    latestOfBoth();
    outputs();
    wrongOnes();
    Check.end();
  }

  private static void needsCode() {
    GuardedMoves x = Check.of("a=1;");
    x.tell();
    Check.state("run()", () -> x.run());
    Check.due("left(0) of the latest", x.left(0), 1);
    Check.due("count(8) of the latest", x.count(8), 1);
    x.lower(0);
    Check.due("run()", x.run(), 0);
  }

  private static void leftByText() {
    GuardedMoves x = Check.of("a=1;?a=1{b=2;@4=5;c=1/d;e=6;}");
    Check.due("tell()", x.tell(), 1);
    row(x, 1, 2, 0, 0, 0);
    Check.due("kept(4)", x.kept(4), 5);
    x.lower(0);
    Check.due("run()", x.run(), 1);
    row(x, 1, 2, 0, 0, 0);
    Check.due("kept(4)", x.kept(4), 5);
  }

  private static void row(GuardedMoves x, int... due) {
    for (int v = 0; v < due.length; v++) {
      Check.due("left(" + v + ")", x.left(v), due[v]);
    }
  }

  private static void leftWithinConverted() {
    GuardedMoves x = Check.lowered("a=1;?a=1{b=2;?a=1{b=3;@4=5;}c=@-1;e=6;}", 400);
    Check.due("run()", x.run(), 2);
    Check.due("count(7)", x.count(7), 6);
    row(x, 1, 0, 0, 0, 0);
    Check.due("kept(4)", x.kept(4), 5);
    Check.due("tell()", x.tell(), 2);
    row(x, 1, 3, 0, 0, 0);
  }

  private static void latestOfBoth() {
    GuardedMoves x = Check.lowered("!a;a=a+1;", 0);
    x.run();
    Check.feed(x, "!5;!6;");
    x.read();
    Check.due("count(5) of the run", x.count(5), 1);
    Check.due("left(0) of the run", x.left(0), 1);
    x.tell();
    Check.due("count(5) of the telling", x.count(5), 2);
    Check.due("left(0) of the telling", x.left(0), 0);
    x.lower(0);
    x.variable(0, 9);
    Check.due("left(0) of the telling", x.left(0), 0);
    x.run();
    Check.due("left(0) of the run", x.left(0), 9);
  }

  private static void outputs() {
    GuardedMoves x = Check.lowered(Check.repeat("!a;", 60), 0);
    x.variable(0, -8);
    x.run();
    Check.due("count(5)", x.count(5), 60);
    Check.due("output(0)", x.output(0), -8);
    Check.due("output(59)", x.output(59), -8);
    Check.index("output(60)", () -> x.output(60));
    GuardedMoves y = Check.of("!1;a=1/0;!2;");
    Check.index("output(0) before any", () -> y.output(0));
    y.tell();
    Check.due("output(0)", y.output(0), 1);
    Check.index("output(1)", () -> y.output(1));
  }

  private static void wrongOnes() {
    GuardedMoves x = Check.lowered("!1;", 0);
    x.run();
    int[] none = {-1, 32, Integer.MIN_VALUE, Integer.MAX_VALUE};
    for (int wrong : none) {
      Check.index("left(" + wrong + ")", () -> x.left(wrong));
      Check.index("kept(" + wrong + ")", () -> x.kept(wrong));
      Check.index("output(" + wrong + ")", () -> x.output(wrong));
    }
    Check.index("left(16)", () -> x.left(16));
    Check.due("left(15)", x.left(15), 0);
    Check.due("kept(31)", x.kept(31), 0);
  }
}
