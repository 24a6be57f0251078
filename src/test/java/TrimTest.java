/** Promise 9: useless steps go, jumps are led anew. */
public final class TrimTest {
  public static void main(String[] args) {
    trimmed("", 400, 0, "");
    trimmed("a=1;a=2;", 400, 0, "SET 0 1 :0, SET 0 2 :1");
    trimmed("?a<b{}", 400, 1, "");
    trimmed("?1<2{}{}", 400, 3, "");
    trimmed("?a<b{c=1;c=2;}", 400, 1, "< 16 0 1 :0, SET 18 2 :2, CHOOSE 19 16 18 2 :0, MOVE 2 19 :0");
    inTurn();
    numbersAreNoRegisters();
    whatStays();
    jumps();
    withoutCode();
    Check.end();
  }

  private static void trimmed(String text, int limit, int went, String want) {
    GuardedMoves x = Check.lowered(text, limit);
    int before = x.count(1);
    int registers = x.count(2);
    Check.due("trim() of " + text, x.trim(), went);
    Check.due("code of " + text, Check.code(x), want);
    Check.due("count(1) of " + text, x.count(1), before - went);
    Check.due("count(2) of " + text, x.count(2), registers);
    Check.due("trim() again of " + text, x.trim(), 0);
    Check.due("code again of " + text, Check.code(x), want);
  }

  private static void inTurn() {
    trimmed("?a<b{c=a+1;d=c+1;d=a;c=b;}", 400, 4,
        "< 16 0 1 :0, CHOOSE 21 16 1 2 :0, CHOOSE 22 16 0 3 :0, MOVE 2 21 :0, MOVE 3 22 :0");
    trimmed("?a<b{c=3;?c<4{c=5;}{c=6;}c=d;}", 400, 10,
        "< 16 0 1 :0, CHOOSE 27 16 3 2 :0, MOVE 2 27 :0");
  }

  private static void numbersAreNoRegisters() {
    trimmed("?a<b{c=1;c=17;}", 400, 1, "< 16 0 1 :0, SET 18 17 :2, CHOOSE 19 16 18 2 :0, MOVE 2 19 :0");
    // the jumps lead to steps 17 and 18, and the registers 17 and 18 are useless
    String text = "?a<b{" + Check.repeat("!a;", 8) + "?c<d{?e<f{}}" + Check.repeat("!a;", 4) + "}{!a;}!b;";
    GuardedMoves x = Check.lowered(text, 400);
    Check.due("step(1, 2)", x.step(1, 2), 17);
    Check.due("step(16, 1)", x.step(16, 1), 18);
    Check.due("trim()", x.trim(), 2);
    Check.due("count(3)", x.count(3), 2);
    Check.due("step(1, 2)", x.step(1, 2), 15);
    Check.due("step(14, 0)", x.step(14, 0), 16);
    Check.due("step(14, 1)", x.step(14, 1), 16);
  }

  private static void whatStays() {
    trimmed("?a<b{c=a/2;c=a%2;d=@3;c=a;d=a;}", 400, 0,
        "< 16 0 1 :0, SET 17 2 :1, / 18 0 17 :1, SET 19 2 :2, % 20 0 19 :2, SET 21 3 :3, LOAD 22 21 :3, "
            + "CHOOSE 23 16 0 2 :0, CHOOSE 24 16 0 3 :0, MOVE 2 23 :0, MOVE 3 24 :0");
    trimmed("?a<b{c=a/d;c=a;}", 400, 0,
        "< 16 0 1 :0, SET 17 1 :1, CHOOSE 18 16 3 17 :1, / 19 0 18 :1, CHOOSE 20 16 0 2 :0, MOVE 2 20 :0");
    trimmed("?a<b{@3=4;}", 400, 0,
        "< 16 0 1 :0, SET 17 3 :1, SET 18 4 :1, LOAD 19 17 :1, CHOOSE 20 16 18 19 :1, STORE 17 20 :1");
    trimmed("!7;@8=9;a=@1;", 0, 0,
        "SET 16 7 :0, TELL 16 :0, SET 17 8 :1, SET 18 9 :1, STORE 17 18 :1, SET 19 1 :2, LOAD 0 19 :2");
    trimmed("?1<2{}", 0, 0, "SET 16 1 :0, SET 17 2 :0, < 18 16 17 :0, JUMPNOT 18 4 :0");
  }

  private static void jumps() {
    trimmed("?a<b{?c<d{}!a;}!b;", 400, 1, "< 16 0 1 :0, JUMPNOT 16 3 :0, TELL 0 :2, TELL 1 :3");
    trimmed("?a<b{!a;}?c<d{}!b;", 400, 1, "< 16 0 1 :0, JUMPNOT 16 3 :0, TELL 0 :1, TELL 1 :3");
    trimmed("?a<b{!a;?c<d{}}{?c<d{}!b;}", 400, 2,
        "< 16 0 1 :0, JUMPNOT 16 4 :0, TELL 0 :1, JUMP 5 :0, TELL 1 :4");
    trimmed("?a<b{!a;}{!b;?c<d{}}", 400, 1,
        "< 16 0 1 :0, JUMPNOT 16 4 :0, TELL 0 :1, JUMP 5 :0, TELL 1 :2");
  }

  private static void withoutCode() {
    GuardedMoves x = Check.of("?a<b{}");
    Check.due("trim() without code", x.trim(), 0);
    Check.due("count(0)", x.count(0), 1);
    Check.state("run()", () -> x.run());
  }
}
