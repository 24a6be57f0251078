/** "2 CODE" of the document: a test for each sentence that names a boundary, the sentence beside it. */
public final class CodeBoundsTest {
  private static final String SIX = Check.repeat("?a<b{", 6);
  private static final String CLOSED = Check.repeat("}", 6);

  public static void main(String[] args) {
    variablesAreRegisters();
    newRegisters();
    eachSetByOneStep();
    numbersThatAreSet();
    oneOrZero();
    chosen();
    jumpNot();
    numbersThatThereAreNot();
    whereItIsWanted();
    firstValueFirst();
    moveOrSet();
    jumpsIfThereAreSecondOnes();
    jumpsBehindTheLastStep();
    noTellingInIt();
    eachInItConverted();
    limitJustMet();
    ifItWereInNoOther();
    guards();
    noGuards();
    guardsWithinOthers();
    newRegistersOnSides();
    variableStandsForIt();
    numberOnASide();
    bothSidesBeginWithThoseFromBefore();
    oneSideAtLeast();
    alsoIfTheseAreTheSame();
    moves();
    divisors();
    indicesRead();
    indicesSet();
    nothingFailsThere();
    Check.end();
  }

  private static void variablesAreRegisters() {
    Check.sentence("REGISTERS 0 .. 15 are the VARIABLES");
    for (int v = 0; v < 16; v++) {
      char name = (char) ('a' + v);
      Check.code(name + "=" + name + ";!" + name + ";", 400, "MOVE " + v + " " + v + " :0, TELL " + v + " :1");
    }
    Check.code("a=p;p=a;", 400, "MOVE 0 15 :0, MOVE 15 0 :1");
    Check.code("?a<p{p=a;}", 400, "< 16 0 15 :0, CHOOSE 17 16 0 15 :0, MOVE 15 17 :0");
  }

  private static void newRegisters() {
    Check.sentence("from 16 on they are numbered as they come");
    Check.code("!1;!2;", 400, "SET 16 1 :0, TELL 16 :0, SET 17 2 :1, TELL 17 :1");
    GuardedMoves x = Check.of("!1;!2;");
    for (int round = 0; round < 3; round++) {
      x.lower(400);
      Check.due("step(0, 1) of lower " + round, x.step(0, 1), 16);
      Check.due("count(2) of lower " + round, x.count(2), 18);
    }
    Check.due("count(2) without new ones", Check.lowered("a=b;!a;b=2;", 400).count(2), 16);
    // what was tried to see whether a ? is within the LIMIT leaves no numbers behind
    Check.code("?1<2{a=3;}!4;", 5,
        "SET 16 1 :0, SET 17 2 :0, < 18 16 17 :0, JUMPNOT 18 5 :0, SET 0 3 :1, SET 19 4 :2, TELL 19 :2");
  }

  private static void eachSetByOneStep() {
    Check.sentence("each is set by one STEP");
    String inner = "c=@d;@c=1;e=c/d;c=1;d=c;?c<e{f=2;}{c=@3;}f=f+1;";
    GuardedMoves x = Check.lowered("?a<b{" + inner + "}{" + inner + "}" + inner, 400);
    int[] sets = new int[x.count(2)];
    for (int i = 0; i < x.count(1); i++) {
      if (x.step(i, 0) < 15) {
        sets[x.step(i, 1)]++;
      }
    }
    for (int r = 16; r < sets.length; r++) {
      Check.due("steps that set register " + r, sets[r], 1);
    }
  }

  private static void numbersThatAreSet() {
    Check.sentence("SET d c (0): a number.");
    Check.code("a=0;a=2147483647;a=-2147483647;!-0;", 400,
        "SET 0 0 :0, SET 0 2147483647 :1, SET 0 -2147483647 :2, SET 16 0 :3, TELL 16 :3");
  }

  private static void oneOrZero() {
    Check.sentence("10 .. 12 for = # <, 1 or 0");
    // GUARDS are made of tests by &, so a test that were true by another number than 1 would be lost here
    Both.says("?a<b{?a#b{?b=b{c=7/b;@b=8;d=@b;}}}!c;!d;", 0, 2, 3, 8);
    Both.says("?a=b{}{?b<a{}{?b#b{}{c=7/b;@b=8;d=@b;}}}!c;!d;", 0, 2, 3, 8);
    Both.says("?a<b{?a#b{?b=b{c=7/b;@b=8;d=@b;}}}!c;!d;", 2, 2, 0, 0);
  }

  private static void chosen() {
    Check.sentence("CHOOSE d p a b (13): a if p is not 0, else b.");
    Both.says("?a<b{c=5;}{c=6;}!c;", 0, 1, 5);
    Both.says("?a<b{c=5;}{c=6;}!c;", 1, 1, 6);
    Both.says("?a<b{c=5;}{c=6;}!c;", Integer.MIN_VALUE, Integer.MAX_VALUE, 5);
  }

  private static void jumpNot() {
    Check.sentence("JUMPNOT p n (17; if p is 0): to STEP n.");
    GuardedMoves x = Check.lowered("?a<b{!1;!2;}!3;", 0);
    Check.due("step(1, 2)", x.step(1, 2), 6);
    x.variable(1, 1);
    x.run();
    Check.due("count(8) if p is 1", x.count(8), 8);
    x.variable(1, 0);
    x.run();
    Check.due("count(8) if p is 0", x.count(8), 4);
    Check.due("output(0)", x.output(0), 3);
  }

  /** One object reads all texts, so that each step stands where steps with other numbers stood. */
  private static void numbersThatThereAreNot() {
    Check.sentence("those that there are not are 0");
    String[] texts = {
      "?a<b{b=c;c=d;d=e;e=f;f=g;g=h;}{h=b;}", "a=1;b=2;c=3;d=4;e=5;f=6;g=7;h=8;i=9;", "?a<b{}{!p;!o;!n;!m;}",
      "p=o;o=n;n=m;m=l;l=k;k=j;j=i;", "@p=o;@n=m;@l=k;@j=i;@p=o;@n=m;", "a=@p;b=@o;c=@n;d=@m;e=@l;",
      "?a<b{?a<b{!c;}{!d;}}{?c<d{!e;}{!f;}}", "!p;!p;!p;!p;!p;!p;!p;!p;", "a=p+o;b=n*m;c=l-k;d=j|i;"
    };
    GuardedMoves x = new GuardedMoves();
    for (int i = 0; i < 2 * texts.length; i++) {
      Check.feed(x, texts[(i * 4) % texts.length]);
      x.read();
      for (int limit = 400; limit >= 0; limit -= 400) {
        x.lower(limit);
        Check.code(x);
      }
    }
    GuardedMoves y = Check.lowered("?a<b{!c;}{!d;}", 0);
    int[][] due = {
      {12, 16, 0, 1, 0, 0}, {17, 16, 4, 0, 0, 0}, {18, 2, 0, 0, 0, 1}, {16, 5, 0, 0, 0, 0}, {18, 3, 0, 0, 0, 2}
    };
    for (int i = 0; i < due.length; i++) {
      for (int what = 0; what < 6; what++) {
        Check.due("step(" + i + ", " + what + ")", y.step(i, what), due[i][what]);
      }
    }
  }

  private static void whereItIsWanted() {
    Check.sentence("or a new one by SET, where it is wanted");
    Check.code("c=7+7;d=7+a;", 400, "SET 16 7 :0, SET 17 7 :0, + 2 16 17 :0, SET 18 7 :1, + 3 18 0 :1");
    Check.code("?7<7{c=7;d=7;}", 400,
        "SET 16 7 :0, SET 17 7 :0, < 18 16 17 :0, SET 19 7 :1, SET 20 7 :2, CHOOSE 21 18 19 2 :0, "
            + "CHOOSE 22 18 20 3 :0, MOVE 2 21 :0, MOVE 3 22 :0");
    // 0 and 1 that are told and those of the GUARD are registers of their own, too
    Check.code("?a<b{}{c=0/0;}", 400,
        "< 16 0 1 :0, SET 17 0 :0, = 18 16 17 :0, SET 19 0 :1, SET 20 0 :1, SET 21 1 :1, CHOOSE 22 18 20 21 :1, "
            + "/ 23 19 22 :1, CHOOSE 24 16 2 23 :0, MOVE 2 24 :0");
  }

  private static void firstValueFirst() {
    Check.sentence("the first VALUE first");
    Check.code("c=1-2;", 400, "SET 16 1 :0, SET 17 2 :0, - 2 16 17 :0");
    Check.code("c=a-2;", 400, "SET 16 2 :0, - 2 0 16 :0");
    Check.code("c=1-a;", 400, "SET 16 1 :0, - 2 16 0 :0");
    Check.code("@1=2;", 400, "SET 16 1 :0, SET 17 2 :0, STORE 16 17 :0");
    Check.code("@a=2;", 400, "SET 16 2 :0, STORE 0 16 :0");
    Check.code("@1=a;", 400, "SET 16 1 :0, STORE 16 0 :0");
    Check.code("?1<2{}", 0, "SET 16 1 :0, SET 17 2 :0, < 18 16 17 :0, JUMPNOT 18 4 :0");
    Check.code("?1<2{}", 3, "SET 16 1 :0, SET 17 2 :0, < 18 16 17 :0");
    Check.code("?a<b{c=1-2;}", 400,
        "< 16 0 1 :0, SET 17 1 :1, SET 18 2 :1, - 19 17 18 :1, CHOOSE 20 16 19 2 :0, MOVE 2 20 :0");
  }

  private static void moveOrSet() {
    Check.sentence("MOVE, or SET of the VARIABLE itself for = NUMBER");
    Check.code("a=b;", 0, "MOVE 0 1 :0");
    Check.code("a=a;", 0, "MOVE 0 0 :0");
    Check.code("a=5;", 0, "SET 0 5 :0");
    Check.code("a=0;", 0, "SET 0 0 :0");
    Check.code("a=-5;", 0, "SET 0 -5 :0");
    Check.code("?a<b{p=5;}", 0, "< 16 0 1 :0, JUMPNOT 16 3 :0, SET 15 5 :1");
  }

  private static void jumpsIfThereAreSecondOnes() {
    Check.sentence("if there are second ones, JUMP behind those, and those");
    Check.code("?a<b{}", 0, "< 16 0 1 :0, JUMPNOT 16 2 :0");
    Check.code("?a<b{}{}", 0, "< 16 0 1 :0, JUMPNOT 16 2 :0");
    Check.code("?a<b{c=1;}", 0, "< 16 0 1 :0, JUMPNOT 16 3 :0, SET 2 1 :1");
    Check.code("?a<b{c=1;}{}", 0, "< 16 0 1 :0, JUMPNOT 16 3 :0, SET 2 1 :1");
    Check.code("?a<b{}{c=1;}", 0, "< 16 0 1 :0, JUMPNOT 16 3 :0, JUMP 4 :0, SET 2 1 :1");
    Check.code("?a<b{c=1;}{c=2;}", 0, "< 16 0 1 :0, JUMPNOT 16 4 :0, SET 2 1 :1, JUMP 5 :0, SET 2 2 :2");
    // second ones that are a ? without statements are second ones
    Check.code("?a<b{}{?c<d{}}", 0, "< 16 0 1 :0, JUMPNOT 16 3 :0, JUMP 5 :0, < 17 2 3 :1, JUMPNOT 17 5 :1");
  }

  private static void jumpsBehindTheLastStep() {
    Check.sentence("JUMPNOT behind the first statements");
    GuardedMoves x = Check.lowered("?a<b{?a<b{c=1;}{c=2;}}", 0);
    Check.due("step(1, 2) behind the last", x.step(1, 2), 7);
    Check.due("step(5, 1) behind the last", x.step(5, 1), 7);
    Check.due("count(1)", x.count(1), 7);
    Check.due("run()", x.run(), 0);
    Check.due("count(8)", x.count(8), 2);
    x.variable(1, 1);
    Check.due("run()", x.run(), 0);
    Check.due("count(8)", x.count(8), 6);
    Check.due("left(2)", x.left(2), 1);
  }

  private static void noTellingInIt() {
    Check.sentence("if no ! is in it");
    converted("?a<b{c=1;}", 400, "1");
    converted("?a<b{!c;}", 400, "0");
    converted("?a<b{}{!c;}", 400, "0");
    converted("!c;?a<b{}!c;", 400, "1");
    converted("?a<b{?a<b{}!c;}", 400, "01");
    converted("?a<b{!c;?a<b{}}", 400, "01");
    converted("?a<b{!c;}?a<b{}", 400, "01");
    converted("?a<b{}?a<b{!c;}", 400, "10");
    converted(SIX + "!c;" + CLOSED, 400, "000000");
    converted(Check.repeat("?a<b{", 5) + "?a<b{}!c;" + Check.repeat("}", 5), 400, "000001");
    Check.due("count(4)", Check.lowered("?a<b{?a<b{}!c;}", 400).count(4), 1);
  }

  private static void eachInItConverted() {
    Check.sentence("each ? in it is CONVERTED");
    converted("?a<b{?c<d{}}", 400, "11");
    converted("?a<b{?c<d{}{!e;}}", 400, "00");
    converted("?a<b{?c<d{}?c<d{!e;}}", 400, "010");
    converted("?a<b{}{?c<d{!e;}}", 400, "00");
    converted("?a<b{?c<d{}}{?c<d{!e;}}", 400, "010");
    // the inner one alone takes 4 steps, all of it 7
    converted("?a<b{?c<d{e=1;}}", 7, "11");
    converted("?a<b{?c<d{e=1;}}", 4, "01");
    converted("?a<b{?c<d{e=1;}}", 3, "00");
  }

  private static void limitJustMet() {
    Check.sentence("has at most so many STEPS");
    met("?a<b{}", 1);
    met("?1<b{}", 2);
    met("?1<2{}{}", 3);
    met("?a<b{c=1;}", 4);
    met("?a<b{c=d;}", 3);
    met("?a<b{}{c=1;}", 6);
    met("?a<b{c=1;}{d=2;}", 9);
    met("?a<b{c=d/e;}", 6);
    met("?a<b{c=@d;}", 6);
    met("?a<b{@c=d;}", 6);
    met("?a<b{?c<d{e=1;}}", 7);
    met(SIX + CLOSED, 6 + 4);
    met(SIX + "c=d;" + CLOSED, 6 + 5 + 6 + 1);
    met(Check.repeat("?a<b{}{", 6) + "c=d;" + CLOSED, 6 + 12 + 5 + 6 + 1);
    met("?a<b{" + Check.repeat("@32=1;", 57) + "}", 400);
    converted("?1<b{" + Check.repeat("@32=1;", 57) + "}", 400, "0");
    Check.due("steps of 401, which stay jumps", Check.of("?1<b{" + Check.repeat("@32=1;", 57) + "}").lower(400), 3 + 57 * 3);
    converted("?a<b{}", 0, "0");
  }

  /** The first ? of a text is converted within a limit of so many steps, and not within one less. */
  private static void met(String text, int steps) {
    GuardedMoves x = Check.of(text);
    Check.due("lower(" + steps + ") of " + text, x.lower(steps), steps);
    Check.due("converted with " + steps + ": " + text, x.statement(0, 2), 1);
    Check.due("jumps with " + steps + ": " + text, x.count(3), 0);
    if (steps < 400) {
      x.lower(steps + 1);
      Check.due("converted with " + (steps + 1) + ": " + text, x.statement(0, 2), 1);
    }
    x.lower(steps - 1);
    Check.due("converted with " + (steps - 1) + ": " + text, x.statement(0, 2), 0);
    Check.due("jumps with " + (steps - 1) + " are some: " + text, x.count(3) > 0, true);
  }

  private static void ifItWereInNoOther() {
    Check.sentence("what it would be LOWERED to then, if it were in no other one");
    // alone: test, SET, CHOOSE, MOVE; within the other one the & comes to it, and no MOVE
    converted("?a<b{?c<d{e=1;}}", 7, "11");
    converted("?a<b{?c<d{e=1;}}", 6, "01");
    // in jumps it is as alone, whatever its registers are
    Check.code("!5;?a<b{!6;?c<d{e=1;}}", 4,
        "SET 16 5 :0, TELL 16 :0, < 17 0 1 :1, JUMPNOT 17 10 :1, SET 18 6 :2, TELL 18 :2, < 19 2 3 :3, SET 20 1 :4, "
            + "CHOOSE 21 19 20 4 :3, MOVE 4 21 :3");
    // alone the inner ones take 4 each; within the outer one 4 each, too: an & more, a MOVE less
    converted("?a<b{?c<d{e=1;}{}?c<d{f=1;}}", 4, "011");
    converted("?a<b{?c<d{e=1;}{}?c<d{f=1;}}", 12, "011");
    converted("?a<b{?c<d{e=1;}{}?c<d{f=1;}}", 13, "111");
    // a variable that stands for another register on the outer side is itself, alone
    converted("?a<b{c=d;?e<f{d=c;}}", 3, "01");
    converted("?a<b{c=d;?e<f{d=c;}}", 2, "00");
  }

  private static void converted(String text, int limit, String want) {
    GuardedMoves x = Check.lowered(text, limit);
    StringBuilder got = new StringBuilder();
    int all = 0;
    for (int s = 0; s < x.count(0); s++) {
      if (x.statement(s, 0) == 5) {
        got.append(x.statement(s, 2));
      } else {
        Check.due("statement(" + s + ", 2) of no ? in " + text, x.statement(s, 2), 0);
      }
      all += x.statement(s, 2);
    }
    Check.due("converted in " + text + " with " + limit, got.toString(), want);
    Check.due("count(4) of " + text + " with " + limit, x.count(4), all);
  }

  private static void guards() {
    Check.sentence("of the second a new register of c = 0 (SET of 0, then REACH =), made when that side begins");
    Check.code("?a<b{c=1;}{c=2;}", 400,
        "< 16 0 1 :0, SET 17 1 :1, SET 18 0 :0, = 19 16 18 :0, SET 20 2 :2, CHOOSE 21 16 17 20 :0, MOVE 2 21 :0");
    Check.code("?a<b{}{c=@d;}", 400,
        "< 16 0 1 :0, SET 17 0 :0, = 18 16 17 :0, SET 19 0 :1, CHOOSE 20 18 3 19 :1, LOAD 21 20 :1, "
            + "CHOOSE 22 16 2 21 :0, MOVE 2 22 :0");
  }

  private static void noGuards() {
    Check.sentence("(there is none for a side without statements, nor for one that is not told)");
    Check.code("?a<b{}", 400, "< 16 0 1 :0");
    Check.code("?a<b{}{}", 400, "< 16 0 1 :0");
    String first = "< 16 0 1 :0, SET 17 1 :1, CHOOSE 18 16 17 2 :0, MOVE 2 18 :0";
    Check.code("?a<b{c=1;}", 400, first);
    Check.code("?a<b{c=1;}{}", 400, first);
    Check.code("?a<b{c=1;}{ \n }", 400, first);
    Check.code("?a<b{}{c=1;}", 400,
        "< 16 0 1 :0, SET 17 0 :0, = 18 16 17 :0, SET 19 1 :1, CHOOSE 20 16 2 19 :0, MOVE 2 20 :0");
    Check.code("?a<b{?c<d{}}", 400, "< 16 0 1 :0, < 17 2 3 :1");
    Check.code("?a<b{?c<d{}{}}", 400, "< 16 0 1 :0, < 17 2 3 :1");
    Check.code("?a<b{}{?c<d{}}", 400, "< 16 0 1 :0, SET 17 0 :0, = 18 16 17 :0, < 19 2 3 :1");
    Check.code("?a<b{?c<d{e=e;}{}}", 400, "< 16 0 1 :0, < 17 2 3 :1, & 18 16 17 :1");
    Check.code("?a<b{?c<d{}{e=e;}}", 400, "< 16 0 1 :0, < 17 2 3 :1, SET 18 0 :1, = 19 17 18 :1, & 20 16 19 :1");
    // a side of statements that are no steps has a GUARD
    Check.code("?a<b{}{e=e;}", 400, "< 16 0 1 :0, SET 17 0 :0, = 18 16 17 :0");
  }

  private static void guardsWithinOthers() {
    Check.sentence("within another converted side, a new register of that one's GUARD & this one, made at once behind");
    Check.code("?a<b{?c<d{@e=f;}{@g=h;}}", 400,
        "< 16 0 1 :0, < 17 2 3 :1, & 18 16 17 :1, SET 19 0 :2, CHOOSE 20 18 4 19 :2, LOAD 21 20 :2, "
            + "CHOOSE 22 18 5 21 :2, STORE 20 22 :2, SET 23 0 :1, = 24 17 23 :1, & 25 16 24 :1, SET 26 0 :3, "
            + "CHOOSE 27 25 6 26 :3, LOAD 28 27 :3, CHOOSE 29 25 7 28 :3, STORE 27 29 :3");
    Check.code("?a<b{}{?c<d{e=1;}{f=2;}}", 400,
        "< 16 0 1 :0, SET 17 0 :0, = 18 16 17 :0, < 19 2 3 :1, & 20 18 19 :1, SET 21 1 :2, SET 22 0 :1, = 23 19 22 :1, "
            + "& 24 18 23 :1, SET 25 2 :3, CHOOSE 26 19 21 4 :1, CHOOSE 27 19 5 25 :1, CHOOSE 28 16 4 26 :0, "
            + "CHOOSE 29 16 5 27 :0, MOVE 4 28 :0, MOVE 5 29 :0");
    // behind the inner one the outer GUARD is the side's again
    Check.code("?a<b{?c<d{e=e;}f=@g;}", 400,
        "< 16 0 1 :0, < 17 2 3 :1, & 18 16 17 :1, SET 19 0 :3, CHOOSE 20 16 6 19 :3, LOAD 21 20 :3, "
            + "CHOOSE 22 16 21 5 :0, MOVE 5 22 :0");
    // six deep, each GUARD of the one round it
    Check.code(SIX + "@0=c;" + CLOSED, 400,
        "< 16 0 1 :0, < 17 0 1 :1, & 18 16 17 :1, < 19 0 1 :2, & 20 18 19 :2, < 21 0 1 :3, & 22 20 21 :3, "
            + "< 23 0 1 :4, & 24 22 23 :4, < 25 0 1 :5, & 26 24 25 :5, SET 27 0 :6, LOAD 28 27 :6, CHOOSE 29 26 2 28 :6, "
            + "STORE 27 29 :6");
    // within a ? that stays jumps, there is no other converted side
    Check.code("?a<b{!a;?c<d{e=f;}}", 400,
        "< 16 0 1 :0, JUMPNOT 16 6 :0, TELL 0 :1, < 17 2 3 :2, CHOOSE 18 17 5 4 :2, MOVE 4 18 :2");
  }

  private static void newRegistersOnSides() {
    Check.sentence("VARIABLES that are set go to new registers, which stand for them on that side from then on");
    Check.code("?a<b{c=c+c;c=c+c;d=c-a;}", 400,
        "< 16 0 1 :0, + 17 2 2 :1, + 18 17 17 :2, - 19 18 0 :3, CHOOSE 20 16 18 2 :0, CHOOSE 21 16 19 3 :0, "
            + "MOVE 2 20 :0, MOVE 3 21 :0");
    Check.code("?a<b{a=@0;?a<b{b=a;}}", 400,
        "< 16 0 1 :0, SET 17 0 :1, LOAD 18 17 :1, < 19 18 1 :2, & 20 16 19 :2, CHOOSE 21 19 18 1 :2, "
            + "CHOOSE 22 16 18 0 :0, CHOOSE 23 16 21 1 :0, MOVE 0 22 :0, MOVE 1 23 :0");
    // behind the ? it is the VARIABLE's own again
    Check.code("?a<b{a=b;}!a;?a<b{a=b;}", 400,
        "< 16 0 1 :0, CHOOSE 17 16 1 0 :0, MOVE 0 17 :0, TELL 0 :2, < 18 0 1 :3, CHOOSE 19 18 1 0 :3, MOVE 0 19 :3");
  }

  private static void variableStandsForIt() {
    Check.sentence("= VARIABLE: that one's register stands for it, too, without a STEP");
    Check.code("?a<b{a=a;}", 400, "< 16 0 1 :0");
    Check.code("?a<b{c=d;e=c;}", 400,
        "< 16 0 1 :0, CHOOSE 17 16 3 2 :0, CHOOSE 18 16 3 4 :0, MOVE 2 17 :0, MOVE 4 18 :0");
    Check.code("?a<b{c=1;d=c;}", 400,
        "< 16 0 1 :0, SET 17 1 :1, CHOOSE 18 16 17 2 :0, CHOOSE 19 16 17 3 :0, MOVE 2 18 :0, MOVE 3 19 :0");
    // d keeps the old c when c is set anew
    Check.code("?a<b{d=c;c=1;}", 400,
        "< 16 0 1 :0, SET 17 1 :2, CHOOSE 18 16 17 2 :0, CHOOSE 19 16 2 3 :0, MOVE 2 18 :0, MOVE 3 19 :0");
    Check.code("?a<b{c=a;a=b;b=c;}", 400,
        "< 16 0 1 :0, CHOOSE 17 16 1 0 :0, CHOOSE 18 16 0 1 :0, CHOOSE 19 16 0 2 :0, MOVE 0 17 :0, MOVE 1 18 :0, "
            + "MOVE 2 19 :0");
    Both.says("?a<b{c=a;a=b;b=c;}!a;!b;", 3, 4, 4, 3);
    Both.says("?a<b{c=a;a=b;b=c;}!a;!b;", 4, 3, 4, 3);
  }

  private static void numberOnASide() {
    Check.sentence("= NUMBER: SET of a new one");
    Check.code("?a<b{c=0;c=-7;}", 400,
        "< 16 0 1 :0, SET 17 0 :1, SET 18 -7 :2, CHOOSE 19 16 18 2 :0, MOVE 2 19 :0");
  }

  private static void bothSidesBeginWithThoseFromBefore() {
    Check.sentence("both sides begin with those from before the ?");
    Check.code("?a<b{c=d;}{e=c;}", 400,
        "< 16 0 1 :0, SET 17 0 :0, = 18 16 17 :0, CHOOSE 19 16 3 2 :0, CHOOSE 20 16 4 2 :0, MOVE 2 19 :0, MOVE 4 20 :0");
    Check.code("?a<b{c=1;?c<d{c=2;}{e=c;}}", 400,
        "< 16 0 1 :0, SET 17 1 :1, < 18 17 3 :2, & 19 16 18 :2, SET 20 2 :3, SET 21 0 :2, = 22 18 21 :2, & 23 16 22 :2, "
            + "CHOOSE 24 18 20 17 :2, CHOOSE 25 18 4 17 :2, CHOOSE 26 16 24 2 :0, CHOOSE 27 16 25 4 :0, MOVE 2 26 :0, "
            + "MOVE 4 27 :0");
  }

  private static void oneSideAtLeast() {
    Check.sentence("for each VARIABLE, in order, for which one side at least has another register than before the ?");
    Check.code("?a<b{c=c;}{d=d;}", 400, "< 16 0 1 :0, SET 17 0 :0, = 18 16 17 :0");
    Check.code("?a<b{c=d;}{d=d;}", 400, "< 16 0 1 :0, SET 17 0 :0, = 18 16 17 :0, CHOOSE 19 16 3 2 :0, MOVE 2 19 :0");
    Check.code("?a<b{d=d;}{c=d;}", 400, "< 16 0 1 :0, SET 17 0 :0, = 18 16 17 :0, CHOOSE 19 16 2 3 :0, MOVE 2 19 :0");
    Check.code("?a<b{c=d;}{c=e;}", 400, "< 16 0 1 :0, SET 17 0 :0, = 18 16 17 :0, CHOOSE 19 16 3 4 :0, MOVE 2 19 :0");
    // in the order of the VARIABLES, the first and the last among them
    Check.code("?b<c{p=b;a=c;}{o=b;}", 400,
        "< 16 1 2 :0, SET 17 0 :0, = 18 16 17 :0, CHOOSE 19 16 2 0 :0, CHOOSE 20 16 14 1 :0, CHOOSE 21 16 1 15 :0, "
            + "MOVE 0 19 :0, MOVE 14 20 :0, MOVE 15 21 :0");
    // set and back again it has the register from before
    Check.code("?a<b{d=c;c=e;c=d;}", 400, "< 16 0 1 :0, CHOOSE 17 16 2 3 :0, MOVE 3 17 :0");
    // another register than before the inner ?, not than before the outer one
    Check.code("?a<b{d=c;c=e;?a<b{c=d;}}", 400,
        "< 16 0 1 :0, < 17 0 1 :3, & 18 16 17 :3, CHOOSE 19 17 2 4 :3, CHOOSE 20 16 19 2 :0, CHOOSE 21 16 2 3 :0, "
            + "MOVE 2 20 :0, MOVE 3 21 :0");
    Check.code("?a<b{c=e;?a<b{c=e;}}", 400,
        "< 16 0 1 :0, < 17 0 1 :2, & 18 16 17 :2, CHOOSE 19 16 4 2 :0, MOVE 2 19 :0");
  }

  private static void alsoIfTheseAreTheSame() {
    Check.sentence("(also if these are the same)");
    Check.code("?a<b{c=d;}{c=d;}", 400, "< 16 0 1 :0, SET 17 0 :0, = 18 16 17 :0, CHOOSE 19 16 3 3 :0, MOVE 2 19 :0");
    Check.code("?a<b{?a<b{c=d;}{c=d;}}", 400,
        "< 16 0 1 :0, < 17 0 1 :1, & 18 16 17 :1, SET 19 0 :1, = 20 17 19 :1, & 21 16 20 :1, CHOOSE 22 17 3 3 :1, "
            + "CHOOSE 23 16 22 2 :0, MOVE 2 23 :0");
  }

  private static void moves() {
    Check.sentence("If the ? is in no converted side, behind all of these the VARIABLES become them by MOVE, in order.");
    Check.code("?a<b{?a<b{c=d;}}", 400,
        "< 16 0 1 :0, < 17 0 1 :1, & 18 16 17 :1, CHOOSE 19 17 3 2 :1, CHOOSE 20 16 19 2 :0, MOVE 2 20 :0");
    Check.code("?a<b{?a<b{d=e;c=d;}!c;}", 400,
        "< 16 0 1 :0, JUMPNOT 16 8 :0, < 17 0 1 :1, CHOOSE 18 17 4 2 :1, CHOOSE 19 17 4 3 :1, MOVE 2 18 :1, MOVE 3 19 :1, "
            + "TELL 2 :4");
    StringBuilder text = new StringBuilder("?a<b{");
    for (char v = 'p'; v >= 'a'; v--) {
      text.append(v).append("=9;");
    }
    GuardedMoves x = Check.lowered(text + "}", 400);
    Check.due("count(1)", x.count(1), 1 + 3 * 16);
    for (int v = 0; v < 16; v++) {
      Check.due("step(" + (17 + v) + ", 4)", x.step(17 + v, 4), v);
      Check.due("step(" + (33 + v) + ", 0)", x.step(33 + v, 0), 1);
      Check.due("step(" + (33 + v) + ", 1)", x.step(33 + v, 1), v);
      Check.due("step(" + (33 + v) + ", 2)", x.step(33 + v, 2), x.step(17 + v, 1));
    }
  }

  private static void divisors() {
    Check.sentence("/ and %: the divisor, if it is no NUMBER other than 0: CHOOSE to a new one, GUARD, divisor, 1");
    for (String op : new String[] {"/", "%"}) {
      for (String number : new String[] {"1", "-1", "2", "2147483647", "-2147483647"}) {
        onSide("c=d" + op + number + ";", "SET 17 " + number + " :1, " + op + " 18 3 17 :1", 18);
      }
      onSide("c=d" + op + "0;", "SET 17 0 :1, SET 18 1 :1, CHOOSE 19 16 17 18 :1, " + op + " 20 3 19 :1", 20);
      onSide("c=d" + op + "-0;", "SET 17 0 :1, SET 18 1 :1, CHOOSE 19 16 17 18 :1, " + op + " 20 3 19 :1", 20);
      onSide("c=d" + op + "e;", "SET 17 1 :1, CHOOSE 18 16 4 17 :1, " + op + " 19 3 18 :1", 19);
      onSide("c=0" + op + "e;", "SET 17 0 :1, SET 18 1 :1, CHOOSE 19 16 4 18 :1, " + op + " 20 17 19 :1", 20);
      onSide("c=0" + op + "5;", "SET 17 0 :1, SET 18 5 :1, " + op + " 19 17 18 :1", 19);
    }
    // a VARIABLE that is a NUMBER other than 0 on that side is a VARIABLE
    Check.code("?a<b{c=5;d=d/c;}", 400,
        "< 16 0 1 :0, SET 17 5 :1, SET 18 1 :2, CHOOSE 19 16 17 18 :2, / 20 3 19 :2, CHOOSE 21 16 17 2 :0, "
            + "CHOOSE 22 16 20 3 :0, MOVE 2 21 :0, MOVE 3 22 :0");
    for (String op : new String[] {"+", "-", "*", "&", "|", "^"}) {
      onSide("c=d" + op + "0;", "SET 17 0 :1, " + op + " 18 3 17 :1", 18);
      onSide("c=d" + op + "e;", op + " 17 3 4 :1", 17);
    }
    Check.code("c=d/e;c=d%0;", 400, "/ 2 3 4 :0, SET 16 0 :1, % 2 3 16 :1");
  }

  private static void indicesRead() {
    Check.sentence("@ read: the index, if it is no NUMBER 0 .. 31: CHOOSE, GUARD, index, 0 likewise; LOAD.");
    for (String number : new String[] {"0", "1", "30", "31"}) {
      onSide("c=@" + number + ";", "SET 17 " + number + " :1, LOAD 18 17 :1", 18);
    }
    onSide("c=@-0;", "SET 17 0 :1, LOAD 18 17 :1", 18);
    for (String number : new String[] {"32", "33", "-1", "-31", "2147483647", "-2147483647"}) {
      onSide("c=@" + number + ";", "SET 17 " + number + " :1, SET 18 0 :1, CHOOSE 19 16 17 18 :1, LOAD 20 19 :1", 20);
    }
    onSide("c=@d;", "SET 17 0 :1, CHOOSE 18 16 3 17 :1, LOAD 19 18 :1", 19);
    Check.code("c=@d;c=@32;", 400, "LOAD 2 3 :0, SET 16 32 :1, LOAD 2 16 :1");
  }

  /** The code of ?a<b{ } round a statement that sets c, which stands in register last then. */
  private static void onSide(String statement, String steps, int last) {
    String want = "< 16 0 1 :0, " + steps + ", CHOOSE " + (last + 1) + " 16 " + last + " 2 :0, MOVE 2 " + (last + 1) + " :0";
    Check.code("?a<b{" + statement + "}", 400, want);
  }

  private static void indicesSet() {
    Check.sentence("@ set: index, then the VALUE; the index likewise; LOAD of that word to a new register, "
        + "CHOOSE of GUARD, VALUE, that; STORE.");
    for (String number : new String[] {"0", "1", "30", "31"}) {
      Check.code("?a<b{@" + number + "=c;}", 400,
          "< 16 0 1 :0, SET 17 " + number + " :1, LOAD 18 17 :1, CHOOSE 19 16 2 18 :1, STORE 17 19 :1");
      Check.code("?a<b{@" + number + "=7;}", 400,
          "< 16 0 1 :0, SET 17 " + number + " :1, SET 18 7 :1, LOAD 19 17 :1, CHOOSE 20 16 18 19 :1, STORE 17 20 :1");
    }
    for (String number : new String[] {"32", "-1", "2147483647"}) {
      Check.code("?a<b{@" + number + "=7;}", 400,
          "< 16 0 1 :0, SET 17 " + number + " :1, SET 18 7 :1, SET 19 0 :1, CHOOSE 20 16 17 19 :1, LOAD 21 20 :1, "
              + "CHOOSE 22 16 18 21 :1, STORE 20 22 :1");
    }
    Check.code("?a<b{@c=7;}", 400,
        "< 16 0 1 :0, SET 17 7 :1, SET 18 0 :1, CHOOSE 19 16 2 18 :1, LOAD 20 19 :1, CHOOSE 21 16 17 20 :1, STORE 19 21 :1");
    Check.code("?a<b{@c=d;}", 400,
        "< 16 0 1 :0, SET 17 0 :1, CHOOSE 18 16 2 17 :1, LOAD 19 18 :1, CHOOSE 20 16 3 19 :1, STORE 18 20 :1");
  }

  private static void nothingFailsThere() {
    Check.sentence("So nothing fails there that would not fail as told.");
    // a is not below b, so the first sides are not meant
    Both.says("?a<b{c=a/b;}{c=5;}!c;", 1, 0, 5);
    Both.says("?a<b{c=a%0;}{c=5;}!c;", 1, 0, 5);
    Both.says("?a<b{c=@a;}{c=5;}!c;", 32, 0, 5);
    Both.says("?a<b{c=@32;}{c=5;}!c;", 1, 0, 5);
    Both.says("?a<b{@a=7;}{c=5;}!c;d=@0;!d;", 32, 0, 5, 0);
    Both.says("?a<b{@-1=7;}{c=5;}!c;d=@0;!d;", 1, 0, 5, 0);
    Both.says("@0=9;?a<b{@a=7;@0=6;}d=@0;!d;", 32, 0, 9);
    Both.says("?a<b{}{?a<b{c=1/0;@32=1;c=@32;}}!c;", 1, 0, 0);
    Both.says("?a<b{?b<a{c=1/0;@32=1;c=@32;}{d=1/b;}}!c;!d;", 1, 0, 0, 0);
    Both.says("?a<b{?b<a{c=1/0;@32=1;c=@32;}{d=1/b;}}!c;!d;", 0, 1, 0, 1);
    // and what fails as told fails there, too
    Both.ends("?b<a{c=a/b;}{c=5;}", 1, 0, 1, 1, 0);
    Both.ends("?b<a{c=@a;}{c=5;}", 32, 0, 2, 1, 0);
    Both.ends("?b<a{@a=7;}{c=5;}", 32, 0, 2, 1, 0);
    Both.ends("?a<b{}{?a<b{}{c=@32;}}", 1, 0, 2, 2, 0);
  }
}
