/** Promises 8 and 10: the code that is made of texts, step by step. */
public final class LowerTest {
  public static void main(String[] args) {
    plainStatements();
    jumps();
    convertedBranches();
    limits();
    nestedBranches();
    guardedStatements();
    whatStandsForVariables();
    loweredAgain();
    wrongOnes();
    Check.end();
  }

  private static void plainStatements() {
    Check.code("", 400, "");
    Check.code("a=b;", 400, "MOVE 0 1 :0");
    Check.code("a=a;", 400, "MOVE 0 0 :0");
    Check.code("p=5;", 400, "SET 15 5 :0");
    Check.code("a=-5;", 400, "SET 0 -5 :0");
    Check.code("c=a+b;", 400, "+ 2 0 1 :0");
    Check.code("c=a-1;", 400, "SET 16 1 :0, - 2 0 16 :0");
    Check.code("c=1*2;", 400, "SET 16 1 :0, SET 17 2 :0, * 2 16 17 :0");
    Check.code("c=-1/0;", 400, "SET 16 -1 :0, SET 17 0 :0, / 2 16 17 :0");
    Check.code("c=a%b;c=a&b;c=a|b;c=a^b;", 400, "% 2 0 1 :0, & 2 0 1 :1, | 2 0 1 :2, ^ 2 0 1 :3");
    Check.code("a=@b;a=@99;", 400, "LOAD 0 1 :0, SET 16 99 :1, LOAD 0 16 :1");
    Check.code("@a=b;@1=2;", 400, "STORE 0 1 :0, SET 16 1 :1, SET 17 2 :1, STORE 16 17 :1");
    Check.code("!p;!7;", 400, "TELL 15 :0, SET 16 7 :1, TELL 16 :1");
  }

  private static void jumps() {
    Check.code("?a<1{b=2;}", 0, "SET 16 1 :0, < 17 0 16 :0, JUMPNOT 17 4 :0, SET 1 2 :1");
    Check.code("?1#2{}", 0, "SET 16 1 :0, SET 17 2 :0, # 18 16 17 :0, JUMPNOT 18 4 :0");
    Check.code("?a=b{c=1;}{d=2;!d;}e=3;", 400,
        "= 16 0 1 :0, JUMPNOT 16 4 :0, SET 2 1 :1, JUMP 6 :0, SET 3 2 :2, TELL 3 :3, SET 4 3 :4");
    Check.code("?a=b{}{c=1;}", 0, "= 16 0 1 :0, JUMPNOT 16 3 :0, JUMP 4 :0, SET 2 1 :1");
    Check.code("?a=b{c=1;}{}", 0, "= 16 0 1 :0, JUMPNOT 16 3 :0, SET 2 1 :1");
    Check.code("?a=b{?c=d{e=1;}{f=2;}}{?g=h{}}", 0,
        "= 16 0 1 :0, JUMPNOT 16 8 :0, = 17 2 3 :1, JUMPNOT 17 6 :1, SET 4 1 :2, JUMP 7 :1, SET 5 2 :3, "
            + "JUMP 10 :0, = 18 6 7 :4, JUMPNOT 18 10 :4");
  }

  private static void convertedBranches() {
    Check.code("?a<b{}", 1, "< 16 0 1 :0");
    Check.code("?a<b{}{}", 1, "< 16 0 1 :0");
    Check.code("?a<b{c=1;}", 4, "< 16 0 1 :0, SET 17 1 :1, CHOOSE 18 16 17 2 :0, MOVE 2 18 :0");
    Check.code("?a<b{}{c=1;}", 6,
        "< 16 0 1 :0, SET 17 0 :0, = 18 16 17 :0, SET 19 1 :1, CHOOSE 20 16 2 19 :0, MOVE 2 20 :0");
    Check.code("?1=2{d=a+3;a=d;}{}", 400,
        "SET 16 1 :0, SET 17 2 :0, = 18 16 17 :0, SET 19 3 :1, + 20 0 19 :1, "
            + "CHOOSE 21 18 20 0 :0, CHOOSE 22 18 20 3 :0, MOVE 0 21 :0, MOVE 3 22 :0");
    Check.code("?a<b{c=1;}?c<a{a=c;}", 400,
        "< 16 0 1 :0, SET 17 1 :1, CHOOSE 18 16 17 2 :0, MOVE 2 18 :0, "
            + "< 19 2 0 :2, CHOOSE 20 19 2 0 :2, MOVE 0 20 :2");
  }

  private static void limits() {
    converted("?a<b{}", 0, "0");
    converted("?a<b{}", 1, "1");
    converted("?a<b{c=1;}", 3, "0");
    converted("?a<b{c=1;}", 4, "1");
    converted("?a<b{!c;}", 400, "0");
    converted("?a<b{}{!c;}", 400, "0");
    converted("?a<b{?c<d{!c;}}", 400, "00");
    converted("?a<b{?c<d{e=1;}!c;}", 400, "01");
    converted("?a<b{?c<d{!c;}}{?c<d{}}?a<b{}", 400, "0011");
    // alone the inner one takes 9, within the outer one that takes 14 it is counted with that
    converted("?a<b{?c=d{e=1;}{f=2;}}", 14, "11");
    converted("?a<b{?c=d{e=1;}{f=2;}}", 13, "01");
    converted("?a<b{?c=d{e=1;}{f=2;}}", 9, "01");
    converted("?a<b{?c=d{e=1;}{f=2;}}", 8, "00");
    converted("?a<b{?c=d{e=1;}{f=2;}}?a<b{}", 8, "001");
    String many = "?a<b{" + Check.repeat("@c=d;", 59) + "}";
    Check.due("steps of 59 guarded words", Check.of(many).lower(400), 1 + 59 * 5 + 0);
    Check.due("steps of the largest", Check.of("?a<b{" + Check.repeat("@c=1;", 59) + "}").lower(355), 1 + 59 * 6);
    Check.due("beyond the limit", Check.of("?a<b{" + Check.repeat("@c=1;", 59) + "}").lower(354), 2 + 59 * 2);
    converted("?a<b{" + Check.repeat("@32=1;", 57) + "}", 400, "1");
    converted("?a<b{" + Check.repeat("@32=1;", 58) + "}", 400, "0");
  }

  private static void converted(String text, int limit, String want) {
    GuardedMoves x = Check.lowered(text, limit);
    StringBuilder got = new StringBuilder();
    for (int s = 0; s < x.count(0); s++) {
      if (x.statement(s, 0) == 5) {
        got.append(x.statement(s, 2));
      }
    }
    Check.due("converted in " + text + " with " + limit, got.toString(), want);
  }

  private static void nestedBranches() {
    String text = "?a<b{?c=d{e=1;}{f=2;}}";
    Check.code(text, 14,
        "< 16 0 1 :0, = 17 2 3 :1, & 18 16 17 :1, SET 19 1 :2, SET 20 0 :1, = 21 17 20 :1, & 22 16 21 :1, "
            + "SET 23 2 :3, CHOOSE 24 17 19 4 :1, CHOOSE 25 17 5 23 :1, CHOOSE 26 16 24 4 :0, CHOOSE 27 16 25 5 :0, "
            + "MOVE 4 26 :0, MOVE 5 27 :0");
    Check.code(text, 13,
        "< 16 0 1 :0, JUMPNOT 16 11 :0, = 17 2 3 :1, SET 18 1 :2, SET 19 0 :1, = 20 17 19 :1, SET 21 2 :3, "
            + "CHOOSE 22 17 18 4 :1, CHOOSE 23 17 5 21 :1, MOVE 4 22 :1, MOVE 5 23 :1");
    Check.code("?a<b{}{?c=d{}{@e=f;}}", 400,
        "< 16 0 1 :0, SET 17 0 :0, = 18 16 17 :0, = 19 2 3 :1, SET 20 0 :1, = 21 19 20 :1, & 22 18 21 :1, "
            + "SET 23 0 :2, CHOOSE 24 22 4 23 :2, LOAD 25 24 :2, CHOOSE 26 22 5 25 :2, STORE 24 26 :2");
    Check.code("?a<b{?c=d{}c=@e;}", 400,
        "< 16 0 1 :0, = 17 2 3 :1, SET 18 0 :2, CHOOSE 19 16 4 18 :2, LOAD 20 19 :2, CHOOSE 21 16 20 2 :0, MOVE 2 21 :0");
    Check.code("?a<b{?a<b{?a<b{c=@d;}}}", 400,
        "< 16 0 1 :0, < 17 0 1 :1, & 18 16 17 :1, < 19 0 1 :2, & 20 18 19 :2, SET 21 0 :3, CHOOSE 22 20 3 21 :3, "
            + "LOAD 23 22 :3, CHOOSE 24 19 23 2 :2, CHOOSE 25 17 24 2 :1, CHOOSE 26 16 25 2 :0, MOVE 2 26 :0");
  }

  private static void guardedStatements() {
    onSide("c=a/2;", "SET 17 2 :1, / 18 0 17 :1", 18);
    onSide("c=a%-1;", "SET 17 -1 :1, % 18 0 17 :1", 18);
    onSide("c=a/0;", "SET 17 0 :1, SET 18 1 :1, CHOOSE 19 16 17 18 :1, / 20 0 19 :1", 20);
    onSide("c=a%-0;", "SET 17 0 :1, SET 18 1 :1, CHOOSE 19 16 17 18 :1, % 20 0 19 :1", 20);
    onSide("c=7/d;", "SET 17 7 :1, SET 18 1 :1, CHOOSE 19 16 3 18 :1, / 20 17 19 :1", 20);
    onSide("c=a*0;", "SET 17 0 :1, * 18 0 17 :1", 18);
    onSide("c=d-e;", "- 17 3 4 :1", 17);
    onSide("c=@0;", "SET 17 0 :1, LOAD 18 17 :1", 18);
    onSide("c=@31;", "SET 17 31 :1, LOAD 18 17 :1", 18);
    onSide("c=@32;", "SET 17 32 :1, SET 18 0 :1, CHOOSE 19 16 17 18 :1, LOAD 20 19 :1", 20);
    onSide("c=@-1;", "SET 17 -1 :1, SET 18 0 :1, CHOOSE 19 16 17 18 :1, LOAD 20 19 :1", 20);
    onSide("c=@d;", "SET 17 0 :1, CHOOSE 18 16 3 17 :1, LOAD 19 18 :1", 19);
    Check.code("?a<b{@c=4;}", 400,
        "< 16 0 1 :0, SET 17 4 :1, SET 18 0 :1, CHOOSE 19 16 2 18 :1, LOAD 20 19 :1, CHOOSE 21 16 17 20 :1, STORE 19 21 :1");
    Check.code("?a<b{@32=4;}", 400,
        "< 16 0 1 :0, SET 17 32 :1, SET 18 4 :1, SET 19 0 :1, CHOOSE 20 16 17 19 :1, LOAD 21 20 :1, "
            + "CHOOSE 22 16 18 21 :1, STORE 20 22 :1");
    Check.code("?a<b{@31=d;}", 400, "< 16 0 1 :0, SET 17 31 :1, LOAD 18 17 :1, CHOOSE 19 16 3 18 :1, STORE 17 19 :1");
  }

  private static void onSide(String statement, String steps, int last) {
    String want = "< 16 0 1 :0, " + steps + ", CHOOSE " + (last + 1) + " 16 " + last + " 2 :0, MOVE 2 " + (last + 1) + " :0";
    Check.code("?a<b{" + statement + "}", 400, want);
  }

  private static void whatStandsForVariables() {
    Check.code("?a<b{a=a;}", 400, "< 16 0 1 :0");
    Check.code("?a<b{c=a;a=c;}", 400, "< 16 0 1 :0, CHOOSE 17 16 0 2 :0, MOVE 2 17 :0");
    Check.code("?a<b{c=a;a=1;a=c;}", 400, "< 16 0 1 :0, SET 17 1 :2, CHOOSE 18 16 0 2 :0, MOVE 2 18 :0");
    Check.code("?a<b{a=b;}{a=b;}", 400,
        "< 16 0 1 :0, SET 17 0 :0, = 18 16 17 :0, CHOOSE 19 16 1 1 :0, MOVE 0 19 :0");
    Check.code("?a<b{c=d;?a<b{c=d;}}", 400,
        "< 16 0 1 :0, < 17 0 1 :2, & 18 16 17 :2, CHOOSE 19 16 3 2 :0, MOVE 2 19 :0");
    Check.code("?a<b{c=1;?c<2{c=3;}{d=c;}}", 400,
        "< 16 0 1 :0, SET 17 1 :1, SET 18 2 :2, < 19 17 18 :2, & 20 16 19 :2, SET 21 3 :3, SET 22 0 :2, "
            + "= 23 19 22 :2, & 24 16 23 :2, CHOOSE 25 19 21 17 :2, CHOOSE 26 19 3 17 :2, CHOOSE 27 16 25 2 :0, "
            + "CHOOSE 28 16 26 3 :0, MOVE 2 27 :0, MOVE 3 28 :0");
    Check.code("?a<b{a=1;}{b=a;}", 400,
        "< 16 0 1 :0, SET 17 1 :1, SET 18 0 :0, = 19 16 18 :0, CHOOSE 20 16 17 0 :0, CHOOSE 21 16 1 0 :0, "
            + "MOVE 0 20 :0, MOVE 1 21 :0");
  }

  private static void loweredAgain() {
    GuardedMoves x = Check.of("?a<b{c=1;c=2;}");
    Check.due("lower(400)", x.lower(400), 5);
    Check.due("trim()", x.trim(), 1);
    Check.due("lower(400)", x.lower(400), 5);
    Check.due("lower(0)", x.lower(0), 4);
    Check.argument("lower(401)", () -> x.lower(401));
    Check.argument("lower(-1)", () -> x.lower(-1));
    Check.due("code stays", Check.code(x), "< 16 0 1 :0, JUMPNOT 16 4 :0, SET 2 1 :1, SET 2 2 :2");
    GuardedMoves y = Check.of("a=1;");
    Check.argument("lower(-1)", () -> y.lower(-1));
    Check.argument("lower(max)", () -> y.lower(Integer.MAX_VALUE));
    Check.argument("lower(min)", () -> y.lower(Integer.MIN_VALUE));
    Check.state("run()", () -> y.run());
  }

  private static void wrongOnes() {
    GuardedMoves x = Check.lowered("a=1;b=2;", 0);
    int[] none = {-1, 2, 720, Integer.MIN_VALUE, Integer.MAX_VALUE};
    int[] what = {-1, 6, 7, Integer.MIN_VALUE, Integer.MAX_VALUE};
    for (int wrong : none) {
      Check.index("step(" + wrong + ", 0)", () -> x.step(wrong, 0));
      Check.index("step(" + wrong + ", 6)", () -> x.step(wrong, 6));
    }
    for (int wrong : what) {
      Check.argument("step(1, " + wrong + ")", () -> x.step(1, wrong));
    }
    GuardedMoves y = Check.of("a=1;");
    Check.index("step(0, 6) without code", () -> y.step(0, 6));
  }
}
