/** "3 RUNS" of the document, and the row on exceptions: a test for each sentence that names a boundary. */
public final class RunBoundsTest {
  private static final int LEAST = Integer.MIN_VALUE;
  private static final int MOST = Integer.MAX_VALUE;

  public static void main(String[] args) {
    beginsWithWhatWasPut();
    howItEnds();
    leftWithinConverted();
    whereItEnded();
    uselessAsLongAsThereAreSome();
    neverUseless();
    registersFrom16On();
    namedAmongWhatItTakes();
    numbersThatAreNoRegisters();
    noSuchOnes();
    ofSeveralTheFirst();
    Check.end();
  }

  private static void beginsWithWhatWasPut() {
    Check.sentence("A run begins with VARIABLES and MEMORY as they were put, and leaves those alone.");
    GuardedMoves x = Check.lowered("a=a+1;p=p+1;b=@0;b=b+1;@0=b;c=@31;c=c+1;@31=c;", 0);
    x.variable(0, MOST);
    x.variable(15, 5);
    x.word(0, LEAST);
    x.word(31, -1);
    for (int round = 0; round < 4; round++) {
      Check.due("how it ended", round % 2 == 0 ? x.tell() : x.run(), 0);
      Check.due("left(0)", x.left(0), LEAST);
      Check.due("left(15)", x.left(15), 6);
      Check.due("kept(0)", x.kept(0), LEAST + 1);
      Check.due("kept(31)", x.kept(31), 0);
      Check.due("kept(30)", x.kept(30), 0);
    }
    x.variable(0, 1);
    x.word(31, 7);
    Check.due("left(0) of the latest run", x.left(0), LEAST);
    Check.due("kept(31) of the latest run", x.kept(31), 0);
    x.run();
    Check.due("left(0)", x.left(0), 2);
    Check.due("kept(31)", x.kept(31), 8);
    // a run that ended by 1 or 2 leaves them alone, too
    GuardedMoves y = Check.lowered("a=a+1;@1=a;b=a/c;", 0);
    for (int round = 0; round < 4; round++) {
      Check.due("how it ended", round % 2 == 0 ? y.tell() : y.run(), 1);
      Check.due("left(0)", y.left(0), 1);
      Check.due("kept(1)", y.kept(1), 1);
    }
  }

  private static void howItEnds() {
    Check.sentence("It ends with 0 well, 1 DIVISION, 2 INDEX");
    Both.says("a=1/1;", 0, 0);
    Both.ends("a=1/0;", 0, 0, 1, 0, 0);
    Both.ends("a=1%0;", 0, 0, 1, 0, 0);
    Both.ends("a=@32;", 0, 0, 2, 0, 0);
    Both.ends("@32=1;", 0, 0, 2, 0, 0);
    // the first that fails
    Both.ends("a=1/0;a=@32;", 0, 0, 1, 0, 0);
    Both.ends("a=@32;a=1/0;", 0, 0, 2, 0, 0);
    Both.ends("?a=a{a=@32;a=1/0;}", 0, 0, 2, 1, 0);
    GuardedMoves x = Check.of("c=1/a;@b=1;");
    Check.due("tell()", x.tell(), 1);
    x.variable(0, 1);
    Check.due("tell()", x.tell(), 0);
    x.variable(1, 32);
    Check.due("tell()", x.tell(), 2);
    x.variable(1, 31);
    Check.due("tell()", x.tell(), 0);
    Check.due("count(7)", x.count(7), GuardedMoves.NONE);
  }

  private static void leftWithinConverted() {
    Check.sentence("(of CODE that ended within a CONVERTED ? , VARIABLES are as they were before that)");
    String text = "c=1;?a=a{c=2;@0=3;d=1/b;c=4;}";
    GuardedMoves x = Check.lowered(text, 400);
    Check.due("run()", x.run(), 1);
    left(x, 0, 0, 1, 0);
    Check.due("kept(0), which is no VARIABLE", x.kept(0), 3);
    Check.due("tell()", x.tell(), 1);
    left(x, 0, 0, 2, 0);
    Check.due("kept(0)", x.kept(0), 3);
    x.lower(0);
    Check.due("run() of jumps", x.run(), 1);
    left(x, 0, 0, 2, 0);
    // within an inner one they are as before the outermost one that is converted
    GuardedMoves y = Check.lowered("c=1;?a=a{c=2;?a=a{c=3;?a=a{c=4;d=@-1;}}}", 400);
    Check.due("run()", y.run(), 2);
    left(y, 0, 0, 1, 0);
    // a ? that stays jumps round it has set them
    GuardedMoves z = Check.lowered("c=1;?a=a{c=2;!c;?a=a{c=3;d=@-1;}}", 400);
    Check.due("run()", z.run(), 2);
    left(z, 0, 0, 2, 0);
    // behind a converted ? they are as it left them; before it likewise
    GuardedMoves w = Check.lowered("c=1;?a=a{c=2;}d=1/b;?a=a{c=3;}", 400);
    Check.due("run()", w.run(), 1);
    left(w, 0, 0, 2, 0);
  }

  private static void left(GuardedMoves x, int... due) {
    for (int v = 0; v < due.length; v++) {
      Check.due("left(" + v + ")", x.left(v), due[v]);
    }
  }

  private static void whereItEnded() {
    Check.sentence("The STATEMENT where it ended by 1 or 2 is told by each STEP.");
    Both.ends("a=1;b=2;c=a/d;", 0, 0, 1, 2, 0);
    Both.ends("?a=a{?a=a{c=1;d=1/e;}}", 0, 0, 1, 3, 0);
    Both.ends("?a=a{?a=a{c=1;}@-1=c;}", 0, 0, 2, 3, 0);
    Both.ends("?a=a{?a#a{c=1/0;}{c=1/0;}}", 0, 0, 1, 3, 0);
    Both.ends("?a#a{?a#a{c=1/0;}{c=1/0;}}{c=@99;}", 0, 0, 2, 4, 0);
    GuardedMoves x = Check.lowered("?a<b{c=1/d;}{?c<d{e=1;}}f=g+1;", 400);
    int[] statements = {0, 1, 1, 1, 1, 0, 0, 2, 2, 3, 2, 0, 0, 0, 0, 4, 4};
    Check.due("count(1)", x.count(1), statements.length);
    for (int i = 0; i < statements.length; i++) {
      Check.due("step(" + i + ", 5)", x.step(i, 5), statements[i]);
    }
    x.lower(0);
    int[] jumps = {0, 0, 1, 1, 0, 2, 2, 3, 4, 4};
    Check.due("count(1) of jumps", x.count(1), jumps.length);
    for (int i = 0; i < jumps.length; i++) {
      Check.due("step(" + i + ", 5) of jumps", x.step(i, 5), jumps[i]);
    }
  }

  private static void trimmed(String text, int went, String want) {
    GuardedMoves x = Check.lowered(text, 400);
    Check.due("trim() of " + text, x.trim(), went);
    Check.due("code of " + text, Check.code(x), want);
    Check.due("trim() again of " + text, x.trim(), 0);
    Check.due("code again of " + text, Check.code(x), want);
  }

  private static void uselessAsLongAsThereAreSome() {
    Check.sentence("USELESS STEPS, as long as there are some");
    String rest = "< 16 0 1 :0, CHOOSE %d 16 0 2 :0, MOVE 2 %d :0";
    trimmed("?a<b{c=a;}", 0, String.format(rest, 17, 17));
    trimmed("?a<b{c=1;c=a;}", 1, String.format(rest, 18, 18));
    // each is useless when the one behind it has gone
    trimmed("?a<b{c=1;c=c+c;c=a;}", 2, String.format(rest, 19, 19));
    trimmed("?a<b{c=1;c=c+c;c=c*c;c=c-c;c=a;}", 4, String.format(rest, 21, 21));
    StringBuilder chain = new StringBuilder("?a<b{");
    for (int i = 0; i < 58; i++) {
      chain.append("c=c+1;");
    }
    trimmed(chain + "c=a;}", 116, String.format(rest, 133, 133));
    // a whole inner ? goes, and with it the GUARDS
    trimmed("?a<b{?d<e{c=1;}{c=2;}c=a;}", 8, String.format(rest, 25, 25));
    // all of the code may go
    trimmed("?1<2{?3<4{}{e=e;}}{}", 9, "");
  }

  private static void neverUseless() {
    Check.sentence("are those (but STORE, JUMP, JUMPNOT, TELL, / and %, LOAD)");
    String rest = "CHOOSE %d 16 0 2 :0, MOVE 2 %d :0";
    trimmed("?a<b{c=a/2;c=a;}", 0, "< 16 0 1 :0, SET 17 2 :1, / 18 0 17 :1, " + String.format(rest, 19, 19));
    trimmed("?a<b{c=a%2;c=a;}", 0, "< 16 0 1 :0, SET 17 2 :1, % 18 0 17 :1, " + String.format(rest, 19, 19));
    trimmed("?a<b{c=@2;c=a;}", 0, "< 16 0 1 :0, SET 17 2 :1, LOAD 18 17 :1, " + String.format(rest, 19, 19));
    trimmed("?a<b{c=a/d;c=a;}", 0,
        "< 16 0 1 :0, SET 17 1 :1, CHOOSE 18 16 3 17 :1, / 19 0 18 :1, " + String.format(rest, 20, 20));
    trimmed("?a<b{@2=3;}", 0,
        "< 16 0 1 :0, SET 17 2 :1, SET 18 3 :1, LOAD 19 17 :1, CHOOSE 20 16 18 19 :1, STORE 17 20 :1");
    trimmed("?a<b{!1;}{!2;}", 0,
        "< 16 0 1 :0, JUMPNOT 16 5 :0, SET 17 1 :1, TELL 17 :1, JUMP 7 :0, SET 18 2 :2, TELL 18 :2");
    // jumps over nothing stay, too
    trimmed("?a<b{?1<2{}?c<d{!e;}}{?3<4{}}", 6,
        "< 16 0 1 :0, JUMPNOT 16 6 :0, < 20 2 3 :2, JUMPNOT 20 5 :2, TELL 4 :3, JUMP 6 :0");
    // each other sort goes: SET, + - * & | ^, = # <, CHOOSE
    for (String op : new String[] {"+", "-", "*", "&", "|", "^"}) {
      trimmed("?a<b{c=d" + op + "e;c=a;}", 1, "< 16 0 1 :0, " + String.format(rest, 18, 18));
    }
    for (String relation : new String[] {"=", "#", "<"}) {
      trimmed("?a" + relation + "b{}", 1, "");
      trimmed("?a" + relation + "b{}{a=a;}", 3, "");
      trimmed("?a<b{c=1;?d" + relation + "e{c=2;}c=a;}", 5, "< 16 0 1 :0, " + String.format(rest, 22, 22));
    }
    // so a division that is meant fails behind trim(), too
    Both.ends("?a=a{c=1/b;c=2;}", 0, 0, 1, 1, 0);
    Both.ends("?a=a{c=@-1;c=2;}", 0, 0, 2, 1, 0);
  }

  private static void registersFrom16On() {
    Check.sentence("that set a register from 16 on");
    trimmed("a=1;a=2;p=3;p=4;", 0, "SET 0 1 :0, SET 0 2 :1, SET 15 3 :2, SET 15 4 :3");
    trimmed("p=o+n;p=o&n;p=a;", 0, "+ 15 14 13 :0, & 15 14 13 :1, MOVE 15 0 :2");
    trimmed("?a<b{p=a;}p=b;", 0, "< 16 0 1 :0, CHOOSE 17 16 0 15 :0, MOVE 15 17 :0, MOVE 15 1 :2");
    trimmed("?1<2{}p=3;", 3, "SET 15 3 :1");
  }

  private static void namedAmongWhatItTakes() {
    Check.sentence("that no other STEP names among what it takes");
    // both numbers of a REACH, the test of a JUMPNOT, what is told
    trimmed("?1<2{!3;}", 0, "SET 16 1 :0, SET 17 2 :0, < 18 16 17 :0, JUMPNOT 18 6 :0, SET 19 3 :1, TELL 19 :1");
    for (String op : new String[] {"+", "-", "*", "/", "%", "&", "|", "^"}) {
      trimmed("a=1" + op + "2;", 0, "SET 16 1 :0, SET 17 2 :0, " + op + " 0 16 17 :0");
      trimmed("?a<b{c=1" + op + "2;}", 0,
          "< 16 0 1 :0, SET 17 1 :1, SET 18 2 :1, " + op + " 19 17 18 :1, CHOOSE 20 16 19 2 :0, MOVE 2 20 :0");
    }
    for (String relation : new String[] {"=", "#", "<"}) {
      trimmed("?1" + relation + "2{c=d;}", 0,
          "SET 16 1 :0, SET 17 2 :0, " + relation + " 18 16 17 :0, CHOOSE 19 18 3 2 :0, MOVE 2 19 :0");
    }
    // the GUARD of a side and what it is made of
    trimmed("?a<b{}{?c<d{}{@1=e;}}", 0,
        "< 16 0 1 :0, SET 17 0 :0, = 18 16 17 :0, < 19 2 3 :1, SET 20 0 :1, = 21 19 20 :1, & 22 18 21 :1, SET 23 1 :2, "
            + "LOAD 24 23 :2, CHOOSE 25 22 4 24 :2, STORE 23 25 :2");
    // both numbers of a STORE, the index of a LOAD
    trimmed("@1=2;a=@3;", 0, "SET 16 1 :0, SET 17 2 :0, STORE 16 17 :0, SET 18 3 :1, LOAD 0 18 :1");
    // all three of a CHOOSE, the number of a MOVE
    trimmed("?a<b{c=1;}{c=2;}", 2, "< 16 0 1 :0, SET 17 1 :1, SET 20 2 :2, CHOOSE 21 16 17 20 :0, MOVE 2 21 :0");
    // taken by a STEP that goes, and by one that stays
    trimmed("?a<b{c=1;d=c+c;d=a;}", 1,
        "< 16 0 1 :0, SET 17 1 :1, CHOOSE 19 16 17 2 :0, CHOOSE 20 16 0 3 :0, MOVE 2 19 :0, MOVE 3 20 :0");
  }

  private static void numbersThatAreNoRegisters() {
    Check.sentence("names among what it takes");
    // 17 and 18 as numbers that are set
    trimmed("?a<b{c=1;c=17;}", 1, "< 16 0 1 :0, SET 18 17 :2, CHOOSE 19 16 18 2 :0, MOVE 2 19 :0");
    trimmed("?a<b{c=1;c=a;}d=17;", 1, "< 16 0 1 :0, CHOOSE 18 16 0 2 :0, MOVE 2 18 :0, SET 3 17 :3");
    // as places where jumps lead, and as statements
    String tells = Check.repeat("!a;", 15);
    GuardedMoves x = Check.lowered("?1<2{}?a<b{" + tells + "}{!a;}", 400);
    Check.due("step(4, 2) leads to", x.step(4, 2), 21);
    Check.due("trim() of tests", x.trim(), 3);
    Check.due("step(1, 2) leads to", x.step(1, 2), 18);
    Check.due("step(17, 1) leads to", x.step(17, 1), 19);
    GuardedMoves y = Check.lowered("?1<2{}?a<b{" + Check.repeat("!a;", 12) + "}{!a;}", 400);
    Check.due("step(4, 2) leads to a step with the number of a useless register", y.step(4, 2), 18);
    Check.due("trim()", y.trim(), 3);
    Check.due("step(1, 2)", y.step(1, 2), 15);
    Check.due("count(1)", y.count(1), 16);
    GuardedMoves z = Check.lowered("?1<2{}?a<b{" + Check.repeat("!a;", 11) + "}{!a;}", 400);
    Check.due("step(16, 1) leads to a step with the number of a useless register", z.step(16, 1), 18);
    Check.due("trim()", z.trim(), 3);
    Check.due("step(13, 1)", z.step(13, 1), 15);
  }

  private static void noSuchOnes() {
    Check.sentence("IndexOutOfBounds: there is no such variable, word, statement, step, number of the OUTPUT.");
    GuardedMoves x = Check.lowered("!1;!2;", 400);
    x.run();
    String before = Check.answers(x);
    for (int wrong : new int[] {-1, 16, 32, LEAST, MOST}) {
      Check.index("variable(" + wrong + ", 7)", () -> x.variable(wrong, 7));
      Check.index("left(" + wrong + ")", () -> x.left(wrong));
    }
    for (int wrong : new int[] {-1, 32, 33, LEAST, MOST}) {
      Check.index("word(" + wrong + ", 7)", () -> x.word(wrong, 7));
      Check.index("kept(" + wrong + ")", () -> x.kept(wrong));
    }
    for (int wrong : new int[] {-1, 2, 3, 60, LEAST, MOST}) {
      Check.index("statement(" + wrong + ", 0)", () -> x.statement(wrong, 0));
      Check.index("output(" + wrong + ")", () -> x.output(wrong));
    }
    for (int wrong : new int[] {-1, 4, 5, 720, LEAST, MOST}) {
      Check.index("step(" + wrong + ", 0)", () -> x.step(wrong, 0));
    }
    Check.due("answers behind refused calls", Check.answers(x), before);
    Check.due("step(3, 0)", x.step(3, 0), 18);
    Check.due("statement(1, 0)", x.statement(1, 0), 4);
    Check.due("output(1)", x.output(1), 2);
    x.tell();
    Check.due("left of a run behind refused calls", Check.answers(x).contains(" 7"), false);
  }

  private static void ofSeveralTheFirst() {
    Check.sentence("Of several the first in this order.");
    GuardedMoves x = new GuardedMoves();
    for (int what : new int[] {-1, 4, 6, LEAST, MOST}) {
      Check.index("statement(0, " + what + ") without statements", () -> x.statement(0, what));
      Check.index("statement(-1, " + what + ")", () -> x.statement(-1, what));
    }
    for (int what : new int[] {-1, 6, 7, LEAST, MOST}) {
      Check.index("step(0, " + what + ") without CODE", () -> x.step(0, what));
      Check.index("step(-1, " + what + ")", () -> x.step(-1, what));
    }
    GuardedMoves y = Check.fed(Check.repeat(" ", 600));
    for (int n : new int[] {0, -1, 9, LEAST, MOST}) {
      Check.argument("feed(0, " + n + ") behind 600 bytes", () -> y.feed(0L, n));
    }
    Check.state("feed(0, 1) behind 600 bytes", () -> y.feed(0L, 1));
    Check.state("feed(0, 8) behind 600 bytes", () -> y.feed(0L, 8));
    GuardedMoves z = Check.lowered("a=1;", 0);
    Check.index("statement(1, 4)", () -> z.statement(1, 4));
    Check.argument("statement(0, 4)", () -> z.statement(0, 4));
    Check.index("step(1, 6)", () -> z.step(1, 6));
    Check.argument("step(0, 6)", () -> z.step(0, 6));
  }
}
