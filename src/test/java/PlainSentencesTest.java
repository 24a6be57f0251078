/** The document's sentences that name no boundary, from its first line on, each beside a test of its own. */
public final class PlainSentencesTest {
  private static final String OPERATIONS = "+-*/%&|^";

  public static void main(String[] args) {
    branchesTurnedIntoCodeWithout();
    sideBySide();
    statements();
    values();
    signs();
    doneInOrder();
    becomes();
    wordsAreRead();
    tells();
    firstStatements();
    upToFourNumbers();
    moves();
    reaches();
    loadsAndStores();
    jumps();
    tellSteps();
    numbersInThisOrder();
    registersOfVariables();
    loweredAsItIs();
    branchesAsTheyAre();
    withinALimit();
    convertedTests();
    choices();
    standsFromThenOn();
    behindTheDivisor();
    whatItLeft();
    exceptions();
    limits();
    counts();
    Check.end();
  }

  private static void branchesTurnedIntoCodeWithout() {
    Check.sentence("Texts with branches turned into code without: both sides are done, what they set is chosen by moves, "
        + "and what could fail on the side that is not meant is done with harmless numbers; where it may not be, or would "
        + "take too much, jumps stay.");
    String text = "?a<b{c=1/d;e=@f;@f=2;}{c=1%b;e=@b;@b=3;}";
    GuardedMoves x = Check.of(text);
    int steps = x.lower(400);
    Check.due("count(3) of " + text, x.count(3), 0);
    // a, b, d, f: the second side could fail, by b, in the first two rows, the first side, by d and f, in the others
    int[][] put = {{-1, 0, 1, 4}, {-1, 32, 1, 4}, {5, 3, 0, 4}, {5, 3, 1, -1}, {5, 3, 0, 32}};
    for (int[] row : put) {
      x.variable(0, row[0]);
      x.variable(1, row[1]);
      x.variable(3, row[2]);
      x.variable(5, row[3]);
      Check.due("tell() of " + text, x.tell(), 0);
      String told = Check.left(x);
      Check.due("run() of " + text, x.run(), 0);
      Check.due("what is left of " + text, Check.left(x), told);
      Check.due("count(8), whichever side is meant", x.count(8), steps);
    }
    Check.due("count(3) with less than it takes", jumpsOf(text, steps - 1), 2);
    Check.due("count(3) with as many as it takes", jumpsOf(text, steps), 0);
    Check.due("count(3) where it may not be", jumpsOf("?a<b{c=1;!c;}{c=2;}", 400), 2);
  }

  private static int jumpsOf(String text, int limit) {
    return Check.lowered(text, limit).count(3);
  }

  private static void sideBySide() {
    Check.sentence("Texts and code are run side by side.");
    GuardedMoves x = Check.lowered("a=a+1;@a=a;!a;?a<5{b=7/a;}", 400);
    x.variable(0, 3);
    for (int round = 0; round < 3; round++) {
      Check.due("tell()", x.tell(), 0);
      String told = Check.left(x);
      Check.due("count(8) of tell()", x.count(8), 5);
      Check.due("run()", x.run(), 0);
      Check.due("left by run()", Check.left(x), told);
      Check.due("count(8) of run()", x.count(8), x.count(1));
    }
  }

  private static void statements() {
    Check.sentence("statement: VARIABLE = VALUE ;   VARIABLE = VALUE OP VALUE ;   VARIABLE = @ VALUE ;   @ VALUE = VALUE ;   "
        + "! VALUE ;   ? VALUE REL VALUE { statements }");
    String[] forms = {"a=~;", "a=~+~;", "a=@~;", "@~=~;", "!~;", "?~<~{}", "?~<~{!~;a=~;}", "?~<~{}{!~;}"};
    int[] sorts = {0, 1, 2, 3, 4, 5, 5, 5};
    for (int i = 0; i < forms.length; i++) {
      for (String value : new String[] {"a", "p", "0", "31", "-1", "2147483647", "-2147483647"}) {
        String text = forms[i].replace("~", value);
        Check.due("statement(0, 0) of " + text, Check.of(text).statement(0, 0), sorts[i]);
      }
    }
    GuardedMoves all = Check.of("a=1;a=1+2;a=@1;@1=2;!1;?1<2{}");
    for (int s = 0; s < 6; s++) {
      Check.due("statement(" + s + ", 0)", all.statement(s, 0), s);
    }
    for (String wrong : new String[] {"a=1", "1=a;", "a;", "a=!1;", "a=?1<2{}", "!@1;", "@1;", "a=@1+2;", "@1=2+3;", "!1+2;"}) {
      Check.due("read() of " + wrong + " is a fault", Check.fed(wrong).read() < 0, true);
    }
  }

  private static void values() {
    Check.sentence("VALUE: VARIABLE, NUMBER");
    Both.says("!a;!b;!7;!-7;!007;!- 7;!-\n7;", 3, -4, 3, -4, 7, -7, 7, -7, -7);
    Check.bad("!-a;", 1, 2);
    Check.bad("!--1;", 1, 2);
    Check.bad("!+1;", 1, 1);
    Check.bad("!;", 1, 1);
    Check.bad("!@a;", 1, 1);
  }

  private static void signs() {
    Check.sentence("OP: + - * / % & | ^ . REL: = # < .");
    int[] reached = {17, 11, 42, 4, 2, 2, 15, 13};
    for (int i = 0; i < OPERATIONS.length(); i++) {
      Both.operation(OPERATIONS.substring(i, i + 1), 14, 3, reached[i]);
    }
    for (int next = 33; next < 256; next++) {
      String sign = String.valueOf((char) next);
      boolean figure = next >= '0' && next <= '9';
      if (OPERATIONS.contains(sign)) {
        Check.good("a=b" + sign + "c;", 1);
      } else if (next != ';') {
        Check.bad("a=b" + sign + "c;", 1, 3);
        Check.bad("a=1" + sign + "c;", 1, figure ? 4 : 3);
      }
      if ("=#<".contains(sign)) {
        Check.good("?a" + sign + "b{}", 1);
      } else {
        Check.bad("?a" + sign + "b{}", 1, 2);
      }
    }
  }

  private static void doneInOrder() {
    Check.sentence("They are done in order: the VARIABLE becomes the VALUE, or what comes of both");
    Both.says("!a;a=b;!a;b=7;!b;a=a+b;!a;a=a-1;!a;", 2, 5, 2, 5, 7, 12, 11);
    Both.says("c=a;a=b;b=c;!a;!b;", 2, 5, 5, 2);
    Both.says("?a<b{c=a;a=b;b=c;a=a+1;b=a*b;}!a;!b;", 2, 5, 6, 12);
  }

  private static void becomes() {
    Check.sentence("the VARIABLE becomes the VALUE, or what comes of both");
    for (int i = 0; i < OPERATIONS.length(); i++) {
      String text = "a=a" + OPERATIONS.charAt(i) + "a;!a;";
      Both.says(text, 6, 0, new int[] {12, 0, 36, 1, 0, 6, 6, 0}[i]);
    }
    Both.says("p=a;o=p;!o;n=-2147483647;!n;n=n;!n;", 9, 0, 9, -2147483647, -2147483647);
  }

  private static void wordsAreRead() {
    Check.sentence("or word VALUE of THE MEMORY (@)");
    GuardedMoves x = Check.lowered("a=@0;b=@31;c=@d;d=@d;?a<b{e=@c;}", 400);
    for (int i = 0; i < 32; i++) {
      x.word(i, 31 - i);
    }
    x.word(0, -5);
    x.variable(3, 30);
    for (int round = 0; round < 2; round++) {
      Check.due("how it ended", round == 0 ? x.tell() : x.run(), 0);
      int[] due = {-5, 0, 1, 1, 30};
      for (int v = 0; v < due.length; v++) {
        Check.due("left(" + v + ")", x.left(v), due[v]);
      }
    }
  }

  private static void tells() {
    Check.sentence("! tells the VALUE to the OUTPUT");
    Both.says("!a;!b;!a;!5;!-5;!0;", 7, -8, 7, -8, 7, 5, -5, 0);
    Both.says("?a<b{!1;!a;}{!2;!b;}!3;", 7, 8, 1, 7, 3);
    Both.says("?a<b{!1;!a;}{!2;!b;}!3;", 8, 7, 2, 7, 3);
  }

  private static void firstStatements() {
    Check.sentence("? does the first statements if VALUE is REL VALUE");
    for (String end : new String[] {"}", "}{c=c*2;d=0;}"}) {
      Both.says("c=1;?a=b{c=c+1;d=c+1;" + end + "!c;!d;", 4, 4, 2, 3);
      Both.says("c=1;?a#b{c=c+1;d=c+1;" + end + "!c;!d;", 4, 5, 2, 3);
      Both.says("c=1;?a<b{c=c+1;d=c+1;" + end + "!c;!d;", 4, 5, 2, 3);
    }
  }

  private static void upToFourNumbers() {
    Check.sentence("2 CODE is STEPS of up to four numbers");
    GuardedMoves x = Check.lowered("?a<b{c=1;}", 400);
    int[][] due = {{12, 16, 0, 1, 0, 0}, {0, 17, 1, 0, 0, 1}, {13, 18, 16, 17, 2, 0}, {1, 2, 18, 0, 0, 0}};
    for (int i = 0; i < due.length; i++) {
      for (int what = 0; what < 6; what++) {
        Check.due("step(" + i + ", " + what + ")", x.step(i, what), due[i][what]);
      }
    }
    Check.argument("step(2, 6)", () -> x.step(2, 6));
  }

  private static void moves() {
    Check.sentence("MOVE d a (1).");
    row("p=b;", 0, 0, 1, 15, 1, 0, 0);
    Both.says("c=a;!c;", 5, 0, 5);
  }

  private static void row(String text, int limit, int i, int... due) {
    GuardedMoves x = Check.lowered(text, limit);
    for (int what = 0; what < due.length; what++) {
      Check.due("step(" + i + ", " + what + ") of " + text, x.step(i, what), due[what]);
    }
  }

  private static void reaches() {
    Check.sentence("REACH op d a b (2 .. 9 for + - * / % & | ^; 10 .. 12 for = # <, 1 or 0)");
    for (int i = 0; i < OPERATIONS.length(); i++) {
      row("p=b" + OPERATIONS.charAt(i) + "c;", 0, 0, 2 + i, 15, 1, 2, 0);
    }
    for (int i = 0; i < 3; i++) {
      row("?b" + "=#<".charAt(i) + "c{}", 0, 0, 10 + i, 16, 1, 2, 0);
      row("?b" + "=#<".charAt(i) + "c{}", 400, 0, 10 + i, 16, 1, 2, 0);
    }
    // as a test is 1 or 0, & of two tests is one of both
    Both.says("?a<b{?b#a{?a#5{c=6/a;}}}!c;", 2, 7, 3);
  }

  private static void loadsAndStores() {
    Check.sentence("LOAD d i (14): word i. STORE i v (15).");
    row("p=@b;", 0, 0, 14, 15, 1, 0, 0);
    row("@p=b;", 0, 0, 15, 15, 1, 0, 0);
    row("@b=p;", 0, 0, 15, 1, 15, 0, 0);
    GuardedMoves x = Check.lowered("@a=b;c=@a;d=@b;", 0);
    x.variable(0, 3);
    x.variable(1, 4);
    x.word(4, 9);
    x.run();
    Check.due("kept(3)", x.kept(3), 4);
    Check.due("left(2)", x.left(2), 4);
    Check.due("left(3)", x.left(3), 9);
  }

  private static void jumps() {
    Check.sentence("JUMP n (16)");
    row("?a<b{!a;}{!b;}", 0, 3, 16, 5, 0, 0, 0);
    row("?a<b{!a;}{!b;}", 0, 1, 17, 16, 4, 0, 0);
    Both.says("?a<b{!1;}{!2;}!3;", 0, 1, 1, 3);
    Both.says("?a<b{!1;}{!2;}!3;", 1, 0, 2, 3);
  }

  private static void tellSteps() {
    Check.sentence("TELL a (18).");
    row("!p;", 0, 0, 18, 15, 0, 0, 0);
    row("!7;", 0, 1, 18, 16, 0, 0, 0);
  }

  private static void numbersInThisOrder() {
    Check.sentence("(Numbers in this order; those that there are not are 0.)");
    row("a=-9;", 0, 0, 0, 0, -9, 0, 0, 0);
    row("?a<b{c=d;}{c=e;}", 400, 3, 13, 19, 16, 3, 4, 0);
    row("?a<b{!c;}", 0, 1, 17, 16, 3, 0, 0, 0);
  }

  private static void registersOfVariables() {
    Check.sentence("A VALUE in code is the register of its VARIABLE, or a new one by SET, where it is wanted");
    Check.code("a=b+c;d=@e;@f=g;!h;?i<j{}", 0,
        "+ 0 1 2 :0, LOAD 3 4 :1, STORE 5 6 :2, TELL 7 :3, < 16 8 9 :4, JUMPNOT 16 6 :4");
    Check.code("a=1+2;d=@3;@4=5;!6;?7<8{}", 0,
        "SET 16 1 :0, SET 17 2 :0, + 0 16 17 :0, SET 18 3 :1, LOAD 3 18 :1, SET 19 4 :2, SET 20 5 :2, STORE 19 20 :2, "
            + "SET 21 6 :3, TELL 21 :3, SET 22 7 :4, SET 23 8 :4, < 24 22 23 :4, JUMPNOT 24 14 :4");
  }

  private static void loweredAsItIs() {
    Check.sentence("LOWERED as it is, a STATEMENT is: MOVE, or SET of the VARIABLE itself for = NUMBER; REACH; LOAD; STORE "
        + "(the first VALUE first); TELL");
    for (int limit : new int[] {0, 400}) {
      Check.code("a=b;a=1;a=b/c;a=@b;@b=c;!b;", limit,
          "MOVE 0 1 :0, SET 0 1 :1, / 0 1 2 :2, LOAD 0 1 :3, STORE 1 2 :4, TELL 1 :5");
    }
    // a VARIABLE = - NUMBER is no MOVE: what is no VARIABLE is a NUMBER there
    Check.code("a=-1;", 0, "SET 0 -1 :0");
  }

  private static void branchesAsTheyAre() {
    Check.sentence("for ? : the test to a new register, JUMPNOT behind the first statements, these, and, if there are second "
        + "ones, JUMP behind those, and those.");
    Check.code("?a<b{a=b;!a;}", 0, "< 16 0 1 :0, JUMPNOT 16 4 :0, MOVE 0 1 :1, TELL 0 :2");
    Check.code("?a<b{a=b;!a;}{b=a;!b;}!c;", 0,
        "< 16 0 1 :0, JUMPNOT 16 5 :0, MOVE 0 1 :1, TELL 0 :2, JUMP 7 :0, MOVE 1 0 :3, TELL 1 :4, TELL 2 :5");
    Check.code("?a<b{a=b;}{}!c;", 0, "< 16 0 1 :0, JUMPNOT 16 3 :0, MOVE 0 1 :1, TELL 2 :2");
  }

  private static void withinALimit() {
    Check.sentence("A ? is CONVERTED within a LIMIT, if no ! is in it, each ? in it is CONVERTED, and what it would be LOWERED "
        + "to then, if it were in no other one, has at most so many STEPS.");
    GuardedMoves x = Check.of("?a<b{c=d;}?a<b{c=1;}?a<b{c=1+d;}?a<b{!c;}");
    int[] steps = {3, 4, 5, 401};
    for (int limit = 0; limit <= 6; limit++) {
      x.lower(limit);
      for (int i = 0; i < steps.length; i++) {
        Check.due("statement(" + 2 * i + ", 2) with " + limit, x.statement(2 * i, 2), steps[i] <= limit ? 1 : 0);
      }
    }
  }

  private static void convertedTests() {
    Check.sentence("It is LOWERED to: the test to a new register c. Its sides' GUARDS: of the first c");
    Check.code("?a#1{@b=c;}", 400,
        "SET 16 1 :0, # 17 0 16 :0, SET 18 0 :1, CHOOSE 19 17 1 18 :1, LOAD 20 19 :1, CHOOSE 21 17 2 20 :1, STORE 19 21 :1");
  }

  private static void choices() {
    Check.sentence("CHOOSE to a new one, c, of the first side, of the second one");
    Check.code("?a<b{c=d;}{c=e;}", 400, "< 16 0 1 :0, SET 17 0 :0, = 18 16 17 :0, CHOOSE 19 16 3 4 :0, MOVE 2 19 :0");
    // c, and not the GUARD, chooses behind an inner one
    Check.code("?a<b{}{?c<d{e=f;}{e=g;}}", 400,
        "< 16 0 1 :0, SET 17 0 :0, = 18 16 17 :0, < 19 2 3 :1, & 20 18 19 :1, SET 21 0 :1, = 22 19 21 :1, & 23 18 22 :1, "
            + "CHOOSE 24 19 5 6 :1, CHOOSE 25 16 4 24 :0, MOVE 4 25 :0");
  }

  private static void standsFromThenOn() {
    Check.sentence("this stands for it from then on.");
    Check.code("?a<b{?a<b{c=d;}c=c+c;}", 400,
        "< 16 0 1 :0, < 17 0 1 :1, & 18 16 17 :1, CHOOSE 19 17 3 2 :1, + 20 19 19 :3, CHOOSE 21 16 20 2 :0, MOVE 2 21 :0");
    Check.code("?a<b{?a<b{c=d;}?c<d{c=a;}}", 400,
        "< 16 0 1 :0, < 17 0 1 :1, & 18 16 17 :1, CHOOSE 19 17 3 2 :1, < 20 19 3 :3, & 21 16 20 :3, CHOOSE 22 20 0 19 :3, "
            + "CHOOSE 23 16 22 2 :0, MOVE 2 23 :0");
    // the second side begins without it
    Check.code("?a<b{?a<b{c=d;}}{e=c;}", 400,
        "< 16 0 1 :0, < 17 0 1 :1, & 18 16 17 :1, CHOOSE 19 17 3 2 :1, SET 20 0 :0, = 21 16 20 :0, CHOOSE 22 16 19 2 :0, "
            + "CHOOSE 23 16 4 2 :0, MOVE 2 22 :0, MOVE 4 23 :0");
  }

  private static void behindTheDivisor() {
    Check.sentence("CHOOSE to a new one, GUARD, divisor, 1 (SET behind the divisor); then REACH.");
    Check.code("?a<b{c=9/0;}", 400,
        "< 16 0 1 :0, SET 17 9 :1, SET 18 0 :1, SET 19 1 :1, CHOOSE 20 16 18 19 :1, / 21 17 20 :1, CHOOSE 22 16 21 2 :0, "
            + "MOVE 2 22 :0");
    Check.code("?a<b{c=9%d;}", 400,
        "< 16 0 1 :0, SET 17 9 :1, SET 18 1 :1, CHOOSE 19 16 3 18 :1, % 20 17 19 :1, CHOOSE 21 16 20 2 :0, MOVE 2 21 :0");
  }

  private static void whatItLeft() {
    Check.sentence("what it left can be asked");
    GuardedMoves x = Check.lowered("a=7;@3=8;!9;b=1/0;a=6;@3=5;!4;", 0);
    for (int round = 0; round < 2; round++) {
      Check.due("how it ended", round == 0 ? x.tell() : x.run(), 1);
      Check.due("left(0)", x.left(0), 7);
      Check.due("left(1)", x.left(1), 0);
      Check.due("kept(3)", x.kept(3), 8);
      Check.due("count(5)", x.count(5), 1);
      Check.due("output(0)", x.output(0), 9);
      Check.due("count(7)", x.count(7), 3);
    }
  }

  private static void exceptions() {
    Check.sentence("IllegalArgument: another number is none told. IllegalState: as told.");
    GuardedMoves x = Check.of("!1;");
    Check.argument("feed(0, 0)", () -> x.feed(0, 0));
    Check.argument("feed(0, 9)", () -> x.feed(0, 9));
    Check.argument("statement(0, 4)", () -> x.statement(0, 4));
    Check.argument("lower(401)", () -> x.lower(401));
    Check.argument("count(9)", () -> x.count(9));
    Check.state("run()", () -> x.run());
    x.lower(0);
    Check.argument("step(0, 6)", () -> x.step(0, 6));
    Check.due("run()", x.run(), 0);
    Check.feed(x, Check.repeat(" ", 600));
    Check.state("feed(0, 1)", () -> x.feed(0, 1));
  }

  private static void limits() {
    Check.sentence("CODE is made of the text with a LIMIT, 0 .. 400: how many STEPS. IllegalArgument.");
    GuardedMoves x = Check.of("?a<b{c=1;}");
    Check.due("lower(3)", x.lower(3), 3);
    String before = Check.answers(x);
    for (int limit : new int[] {-1, 401, Integer.MIN_VALUE, Integer.MAX_VALUE}) {
      Check.argument("lower(" + limit + ")", () -> x.lower(limit));
      Check.due("all behind a refused lower()", Check.answers(x), before);
    }
    Check.due("lower(400)", x.lower(400), 4);
    Check.due("lower(0)", x.lower(0), 3);
  }

  private static void counts() {
    Check.sentence("numbers in the OUTPUT (5), bytes on the tape (6)");
    GuardedMoves x = Check.of("!1;?a=0{!2;!3;}");
    Check.due("count(5) before any", x.count(5), 0);
    Check.due("count(6) behind read()", x.count(6), 0);
    x.tell();
    Check.due("count(5)", x.count(5), 3);
    x.variable(0, 1);
    x.tell();
    Check.due("count(5)", x.count(5), 1);
    for (int bytes = 1; bytes <= 20; bytes++) {
      x.feed(' ', 1);
      Check.due("count(6)", x.count(6), bytes);
    }
    x.feed(0, 8);
    Check.due("count(6)", x.count(6), 28);
    Check.due("count(5)", x.count(5), 1);
  }
}
