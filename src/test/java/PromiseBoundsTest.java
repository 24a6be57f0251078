/** Promises 1 to 16 and the 512 calls: a test for each sentence that names a boundary, the sentence beside it. */
public final class PromiseBoundsTest {
  private static final int LEAST = Integer.MIN_VALUE;
  private static final int MOST = Integer.MAX_VALUE;
  private static final String BRANCH = "?a<b{c=1;c=2;}!c;";

  public static void main(String[] args) {
    calls512();
    newObject();
    variablePut();
    wordPut();
    lowestBytes();
    bytesOneToEight();
    moreThan600();
    tapeIsTheText();
    noCodeThen();
    nothingChanges();
    faultOfTheLatest();
    sorts();
    inHowMany();
    whetherConverted();
    stepsThatTellIt();
    anotherWhatOfAStatement();
    limits();
    codeIsMadeAnew();
    stepsGo();
    jumpsTellWhereTheyLead();
    ofAStep();
    anotherWhatOfAStep();
    toldAsItIs();
    thereIsNoCode();
    leftBeforeAny();
    keptBeforeAny();
    ofTheLatestRun();
    numbersOfTheOutput();
    counts();
    endedAndDone();
    anotherWhatOfCount();
    Check.end();
  }

  private static void calls512() {
    Check.sentence("An object is used for at most 512 calls after it has been made; what later calls answer is free.");
    GuardedMoves x = new GuardedMoves();
    // ?a=a{c=1/0;}
    x.feed(0x3F613D617B633D31L, 8);
    x.feed(0x2F303B7DL, 4);
    Check.due("read()", x.read(), 2);
    Check.due("tell()", x.tell(), 1);
    for (int call = 5; call <= 512; call += 4) {
      boolean converts = call % 8 == 5;
      Check.due("lower of call " + call, x.lower(converts ? 8 : 7), converts ? 8 : 5);
      Check.due("run of call " + (call + 1), x.run(), 1);
      Check.due("trim of call " + (call + 2), x.trim(), 0);
      Check.due("count of call " + (call + 3), x.count(8), converts ? 6 : 5);
    }
    GuardedMoves y = new GuardedMoves();
    for (int call = 1; call < 512; call += 2) {
      Check.due("feed of call " + call, y.feed(' ', 1), 1);
      Check.due("read of call " + (call + 1), y.read(), 0);
    }
  }

  private static void newObject() {
    Check.sentence("All VARIABLES and words 0, an empty tape, a text without statements, no CODE.");
    GuardedMoves x = new GuardedMoves();
    int[] due = {0, 0, 16, 0, 0, 0, 0, -1, 0};
    for (int what = 0; what < due.length; what++) {
      Check.due("count(" + what + ")", x.count(what), due[what]);
    }
    Check.due("fault()", x.fault(), 0);
    Check.state("run()", () -> x.run());
    Check.index("statement(0, 0)", () -> x.statement(0, 0));
    Check.index("step(0, 0)", () -> x.step(0, 0));
    Check.index("output(0)", () -> x.output(0));
    Check.due("trim()", x.trim(), 0);
    Check.due("tell()", x.tell(), 0);
    for (int v = 0; v < 16; v++) {
      Check.due("left(" + v + ")", x.left(v), 0);
    }
    for (int i = 0; i < 32; i++) {
      Check.due("kept(" + i + ")", x.kept(i), 0);
    }
    Check.due("feed of the first byte", x.feed(' ', 1), 1);
    GuardedMoves y = new GuardedMoves();
    Check.due("lower(0) of a new object", y.lower(0), 0);
    Check.due("run() then", y.run(), 0);
    Check.due("read() of a new object", new GuardedMoves().read(), 0);
  }

  private static void variablePut() {
    Check.sentence("A VARIABLE (0 .. 15) is put to a number.");
    for (int v = 0; v < 16; v++) {
      GuardedMoves x = new GuardedMoves();
      x.variable(v, LEAST);
      x.variable(v, MOST);
      x.tell();
      for (int other = 0; other < 16; other++) {
        Check.due("left(" + other + ") with " + v + " put", x.left(other), other == v ? MOST : 0);
      }
    }
    GuardedMoves y = new GuardedMoves();
    y.variable(0, 5);
    y.variable(15, 6);
    for (int wrong : new int[] {-1, 16, 17, LEAST, MOST}) {
      Check.index("variable(" + wrong + ", 9)", () -> y.variable(wrong, 9));
    }
    y.tell();
    Check.due("left behind refused calls", Check.left(y).contains(" 9"), false);
    Check.due("left(0)", y.left(0), 5);
    Check.due("left(15)", y.left(15), 6);
  }

  private static void wordPut() {
    Check.sentence("A word of THE MEMORY is put to a number.");
    for (int i = 0; i < 32; i++) {
      GuardedMoves x = new GuardedMoves();
      x.word(i, MOST);
      x.word(i, LEAST);
      x.tell();
      for (int other = 0; other < 32; other++) {
        Check.due("kept(" + other + ") with " + i + " put", x.kept(other), other == i ? LEAST : 0);
      }
    }
    GuardedMoves y = new GuardedMoves();
    y.word(0, 5);
    y.word(31, 6);
    for (int wrong : new int[] {-1, 32, 33, LEAST, MOST}) {
      Check.index("word(" + wrong + ", 9)", () -> y.word(wrong, 9));
    }
    y.tell();
    Check.due("kept behind refused calls", Check.left(y).contains(" 9"), false);
    Check.due("kept(0)", y.kept(0), 5);
    Check.due("kept(31)", y.kept(31), 6);
  }

  private static void lowestBytes() {
    Check.sentence("The lowest n bytes of a number, the highest of these first, come behind the tape: how many it has.");
    for (int n = 1; n <= 8; n++) {
      GuardedMoves x = Check.fed("!123456;".substring(0, 8 - n));
      long lowest = n == 8 ? -1L : (1L << 8 * n) - 1;
      // the bytes above the lowest n are x, which must not come
      long number = 0x213132333435363BL & lowest | 0x7878787878787878L & ~lowest;
      Check.due("feed of " + n, x.feed(number, n), 8);
      Check.due("count(6)", x.count(6), 8);
      Check.due("read() behind feed of " + n, x.read(), 1);
      x.tell();
      Check.due("output(0)", x.output(0), 123456);
    }
    GuardedMoves y = new GuardedMoves();
    Check.due("feed(-1, 1)", y.feed(-1L, 1), 1);
    Check.due("feed(-1, 8)", y.feed(-1L, 8), 9);
    Check.due("read() of bytes 255", y.read(), -1);
    GuardedMoves z = new GuardedMoves();
    Check.due("feed with the highest bit", z.feed(0xA020202020202020L, 8), 8);
    Check.due("read()", z.read(), -1);
    GuardedMoves w = new GuardedMoves();
    w.feed(0x2131L, 2);
    w.feed(0x32L, 1);
    w.feed(0x333BL, 2);
    Check.due("read() of !123;", w.read(), 1);
    w.tell();
    Check.due("output(0)", w.output(0), 123);
  }

  private static void bytesOneToEight() {
    Check.sentence("IllegalArgument: n is not 1 .. 8.");
    GuardedMoves x = Check.fed("a=1");
    for (int n : new int[] {0, 9, -1, -8, 16, 256, LEAST, MOST, LEAST + 1}) {
      Check.argument("feed(59, " + n + ")", () -> x.feed(59L, n));
      Check.due("count(6)", x.count(6), 3);
    }
    Check.due("feed(59, 1)", x.feed(59L, 1), 4);
    Check.due("feed of 8", x.feed(0x2020202020202020L, 8), 12);
    Check.due("read() behind refused calls", x.read(), 1);
  }

  private static void moreThan600() {
    Check.sentence("IllegalState: there would be more than 600.");
    for (int n = 1; n <= 8; n++) {
      int bytes = n;
      GuardedMoves x = Check.fed(Check.repeat(" ", 601 - n));
      Check.state("feed of " + n + " behind " + (601 - n), () -> x.feed('x', bytes));
      Check.due("count(6)", x.count(6), 601 - n);
      Check.due("feed of " + (n - 1), n == 1 ? 600 : x.feed(0x2020202020202020L, n - 1), 600);
      Check.state("feed of 1 behind 600", () -> x.feed('x', 1));
      Check.due("read() behind refused calls", x.read(), 0);
      GuardedMoves y = Check.fed(Check.repeat(" ", 600 - n));
      Check.due("feed of " + n + " to 600", y.feed(0x2020202020202020L, n), 600);
    }
    GuardedMoves z = Check.fed(Check.repeat(" ", 599) + "x");
    Check.due("read() of 600 bytes with a FAULT", z.read(), -600);
    Check.state("feed behind a refused read()", () -> z.feed(' ', 1));
    Check.due("count(6) behind a refused read()", z.count(6), 600);
  }

  private static void tapeIsTheText() {
    Check.sentence("The tape, which is empty then, is the text: how many STATEMENTS it has");
    GuardedMoves x = Check.fed("a=1;b=2;");
    Check.due("read()", x.read(), 2);
    Check.due("count(0)", x.count(0), 2);
    Check.due("count(6)", x.count(6), 0);
    Check.due("feed", x.feed(0x2161L, 2), 2);
    x.feed(';', 1);
    Check.due("read()", x.read(), 1);
    Check.due("statement(0, 0)", x.statement(0, 0), 4);
    Check.index("statement(1, 0) of the text before", () -> x.statement(1, 0));
    Check.due("read() of the empty tape", x.read(), 0);
    Check.due("count(0)", x.count(0), 0);
    Check.index("statement(0, 0)", () -> x.statement(0, 0));
    Check.due("tell()", x.tell(), 0);
    Check.due("count(8)", x.count(8), 0);
    Check.feed(x, Check.repeat("!a;", 60));
    Check.due("read() of sixty", x.read(), 60);
  }

  private static void noCodeThen() {
    Check.sentence("there is no CODE then");
    GuardedMoves x = Check.lowered(BRANCH, 400);
    Check.feed(x, BRANCH);
    x.read();
    Check.state("run()", () -> x.run());
    Check.index("step(0, 0)", () -> x.step(0, 0));
    Check.due("count(1)", x.count(1), 0);
    Check.due("count(2)", x.count(2), 16);
    Check.due("count(3)", x.count(3), 0);
    Check.due("count(4)", x.count(4), 0);
    Check.due("trim()", x.trim(), 0);
    Check.due("statement(0, 2)", x.statement(0, 2), 0);
    Check.due("statement(0, 3)", x.statement(0, 3), 0);
    // with jumps as well, and by the reading of an empty tape
    x.lower(0);
    Check.due("count(3) with jumps", x.count(3), 1);
    x.read();
    Check.due("count(3)", x.count(3), 0);
    Check.state("run()", () -> x.run());
    // trimmed away or not: CODE of no STEPS is CODE
    GuardedMoves y = Check.lowered("?a<b{}", 400);
    Check.due("trim()", y.trim(), 1);
    Check.due("run() of no STEPS", y.run(), 0);
    y.read();
    Check.state("run()", () -> y.run());
  }

  private static void nothingChanges() {
    Check.sentence("-1 less the place of its FAULT: nothing changes.");
    String[] faulty = {
      "x", "a=1", "?a<b{!7;}{a=b;", "a=1;b=99999999999;", Check.repeat("!c;", 61), Check.repeat("?a=b{", 7)
    };
    int[] places = {0, 3, 14, 6, 180, 30};
    int[] faults = {1, 1, 1, 2, 3, 4};
    for (int i = 0; i < faulty.length; i++) {
      GuardedMoves x = Check.lowered(BRANCH, 400);
      x.variable(1, 1);
      x.word(3, 4);
      x.run();
      Check.feed(x, faulty[i]);
      String before = Check.answers(x);
      for (int round = 0; round < 2; round++) {
        Check.due("read() of " + faulty[i], x.read(), -1 - places[i]);
        Check.due("fault() of " + faulty[i], x.fault(), faults[i]);
        Check.due("answers behind read() of " + faulty[i], Check.answers(x), before);
      }
      Check.due("count(6)", x.count(6), faulty[i].length());
      Check.due("run()", x.run(), 0);
      Check.due("answers behind run()", Check.answers(x), before);
      Check.due("tell()", x.tell(), 0);
      Check.due("output(0)", x.output(0), 2);
      Check.due("left(1), as it was put", x.left(1), 1);
      Check.due("kept(3), as it was put", x.kept(3), 4);
      Check.due("lower(0)", x.lower(0), 5);
    }
    // without CODE, and of a new object: there is still none
    GuardedMoves y = Check.fed("x");
    Check.due("read()", y.read(), -1);
    Check.state("run()", () -> y.run());
    Check.due("count(0)", y.count(0), 0);
    Check.due("feed behind the byte that stays", y.feed(' ', 1), 2);
    // what stays on the tape can be made whole
    GuardedMoves z = Check.fed("!5");
    Check.due("read()", z.read(), -3);
    z.feed(';', 1);
    Check.due("read()", z.read(), 1);
    Check.due("tell()", z.tell(), 0);
    Check.due("output(0)", z.output(0), 5);
  }

  private static void faultOfTheLatest() {
    Check.sentence("The FAULT of the latest read(); 0 for none, and before.");
    GuardedMoves x = new GuardedMoves();
    Check.due("fault() before", x.fault(), 0);
    x.feed('a', 1);
    Check.due("fault() before", x.fault(), 0);
    x.read();
    Check.due("fault() 1", x.fault(), 1);
    Check.feed(x, "=9999999999;");
    Check.due("fault() till the next read()", x.fault(), 1);
    x.read();
    Check.due("fault() 2", x.fault(), 2);
    x.lower(0);
    x.run();
    x.tell();
    x.trim();
    Check.due("fault() behind other calls", x.fault(), 2);
    GuardedMoves y = Check.fed("!");
    y.read();
    Check.feed(y, "a;");
    Check.due("read()", y.read(), 1);
    Check.due("fault() for none", y.fault(), 0);
    Check.due("read()", y.read(), 0);
    Check.due("fault() for none", y.fault(), 0);
    Check.bad(Check.repeat("a=1;", 60) + "!", 3, 240);
    Check.bad(Check.repeat("?a=b{", 7), 4, 30);
  }

  private static void sorts() {
    Check.sentence("its sort (what = 0: 0 = VALUE, 1 with OP, 2 = @, 3 @ =, 4 !, 5 ?)");
    String[] texts = {
      "a=b;", "a=-1;", "a=b+c;", "a=-1--1;", "a=@b;", "a=@-1;", "@a=b;", "@-1=-1;", "!a;", "!-1;", "?a=b{}", "?1#1{}{}"
    };
    for (int i = 0; i < texts.length; i++) {
      Check.due("statement(0, 0) of " + texts[i], Check.of(texts[i]).statement(0, 0), i / 2);
    }
    for (char op : "+-*/%&|^".toCharArray()) {
      Check.due("statement(0, 0) with " + op, Check.of("a=b" + op + "c;").statement(0, 0), 1);
    }
  }

  private static void inHowMany() {
    Check.sentence("in how many ? it is (1)");
    GuardedMoves x = Check.of("!a;" + Check.repeat("?a=b{", 6) + "!a;}{!b;}!c;" + Check.repeat("}", 5) + "!d;");
    int[] due = {0, 0, 1, 2, 3, 4, 5, 6, 6, 5, 0};
    for (int s = 0; s < due.length; s++) {
      Check.due("statement(" + s + ", 1)", x.statement(s, 1), due[s]);
    }
  }

  private static void whetherConverted() {
    Check.sentence("whether it is a CONVERTED ? (2; 1 or 0; 0 without CODE)");
    GuardedMoves x = Check.of(BRANCH);
    row(x, 2, 0, 0, 0, 0);
    x.lower(5);
    row(x, 2, 1, 0, 0, 0);
    x.lower(4);
    row(x, 2, 0, 0, 0, 0);
    x.lower(400);
    row(x, 2, 1, 0, 0, 0);
    x.trim();
    row(x, 2, 1, 0, 0, 0);
    Check.argument("lower(401)", () -> x.lower(401));
    row(x, 2, 1, 0, 0, 0);
    Check.feed(x, "?");
    x.read();
    row(x, 2, 1, 0, 0, 0);
    Check.feed(x, "a<b{}");
    x.read();
    row(x, 2, 0);
  }

  private static void stepsThatTellIt() {
    Check.sentence("STEPS that tell it (3)");
    GuardedMoves x = Check.of(BRANCH);
    row(x, 3, 0, 0, 0, 0);
    x.lower(400);
    row(x, 3, 3, 1, 1, 1);
    Check.due("trim()", x.trim(), 1);
    row(x, 3, 3, 0, 1, 1);
    x.lower(0);
    row(x, 3, 2, 1, 1, 1);
    GuardedMoves y = Check.lowered("?a<b{}{c=d;}?a<b{}{!c;}", 400);
    row(y, 3, 5, 0, 3, 1);
    Check.due("trim()", y.trim(), 2);
    row(y, 3, 3, 0, 3, 1);
  }

  private static void row(GuardedMoves x, int what, int... due) {
    Check.due("count(0)", x.count(0), due.length);
    for (int s = 0; s < due.length; s++) {
      Check.due("statement(" + s + ", " + what + ")", x.statement(s, what), due[s]);
    }
  }

  private static void anotherWhatOfAStatement() {
    Check.sentence("Of a STATEMENT: its sort");
    GuardedMoves x = Check.of("a=1;");
    for (int what : new int[] {-1, 4, 5, LEAST, MOST}) {
      Check.argument("statement(0, " + what + ")", () -> x.statement(0, what));
      Check.index("statement(1, " + what + ")", () -> x.statement(1, what));
    }
    Check.due("statement(0, 0)", x.statement(0, 0), 0);
    Check.due("statement(0, 3)", x.statement(0, 3), 0);
    GuardedMoves y = Check.of(Check.repeat("a=1;", 59) + "!a;");
    Check.due("statement(59, 0)", y.statement(59, 0), 4);
    Check.index("statement(60, 0)", () -> y.statement(60, 0));
  }

  private static void limits() {
    Check.sentence("CODE is made of the text with a LIMIT, 0 .. 400: how many STEPS.");
    GuardedMoves x = Check.of(BRANCH);
    for (int limit : new int[] {-1, 401, -400, LEAST, MOST}) {
      Check.argument("lower(" + limit + ")", () -> x.lower(limit));
      Check.state("run() behind a refused lower()", () -> x.run());
      Check.due("count(1)", x.count(1), 0);
    }
    Check.due("lower(0)", x.lower(0), 5);
    Check.due("lower(1)", x.lower(1), 5);
    Check.due("lower(399)", x.lower(399), 6);
    Check.due("lower(400)", x.lower(400), 6);
    Check.due("count(1)", x.count(1), 6);
    x.trim();
    String before = Check.answers(x);
    for (int limit : new int[] {-1, 401, LEAST, MOST}) {
      Check.argument("lower(" + limit + ")", () -> x.lower(limit));
      Check.due("answers behind a refused lower()", Check.answers(x), before);
    }
    Check.due("run() behind a refused lower()", x.run(), 0);
  }

  private static void codeIsMadeAnew() {
    Check.sentence("CODE is made of the text");
    GuardedMoves x = Check.lowered(BRANCH, 400);
    String converted = Check.code(x);
    x.trim();
    Check.due("lower(400) behind trim()", x.lower(400), 6);
    Check.due("code behind trim()", Check.code(x), converted);
    x.lower(0);
    x.lower(400);
    Check.due("code behind lower(0)", Check.code(x), converted);
    Check.feed(x, "x");
    x.read();
    x.lower(400);
    Check.due("code behind a refused read()", Check.code(x), converted);
    x.run();
    String left = Check.left(x);
    x.lower(0);
    Check.due("lower() leaves what the latest run left", Check.left(x), left);
  }

  private static void stepsGo() {
    Check.sentence("USELESS STEPS go from the CODE (jumps tell where they lead then): how many went.");
    GuardedMoves x = Check.of(BRANCH);
    Check.due("trim() without CODE", x.trim(), 0);
    Check.state("run() behind trim() without CODE", () -> x.run());
    x.lower(0);
    Check.due("trim() without USELESS STEPS", x.trim(), 0);
    Check.due("count(1)", x.count(1), 5);
    x.lower(400);
    x.run();
    String left = Check.left(x);
    Check.due("trim()", x.trim(), 1);
    Check.due("count(1)", x.count(1), 5);
    Check.index("step(5, 0)", () -> x.step(5, 0));
    Check.due("step(4, 0)", x.step(4, 0), 18);
    Check.due("count(2), as the registers keep their numbers", x.count(2), 20);
    Check.due("count(4)", x.count(4), 1);
    Check.due("trim() leaves what the latest run left", Check.left(x), left);
    Check.due("trim() again", x.trim(), 0);
    Check.due("run()", x.run(), 0);
    Check.due("count(8)", x.count(8), 5);
    // of each CODE its own, whatever was trimmed before
    GuardedMoves y = new GuardedMoves();
    String[] texts = {"?1<2{a=3+4;}!5;", "?1<2{a=3;a=4;}", "!1;!2;!3;", "?1<2{}?3<4{}", "?a<b{}", ""};
    int[] went = {0, 1, 0, 6, 1, 0};
    for (int i = 0; i < 2 * texts.length; i++) {
      int at = i * 5 % texts.length;
      Check.feed(y, texts[at]);
      y.read();
      y.lower(400);
      Check.due("trim() of " + texts[at] + " behind others", y.trim(), went[at]);
    }
  }

  private static void jumpsTellWhereTheyLead() {
    Check.sentence("jumps tell where they lead then");
    // the STEP where a jump led goes, and is not the last
    trimmed("?a<b{!a;}?c<d{}!b;", 1, "< 16 0 1 :0, JUMPNOT 16 3 :0, TELL 0 :1, TELL 1 :3");
    // several there
    trimmed("?a<b{!a;}?1<2{}!b;", 3, "< 16 0 1 :0, JUMPNOT 16 3 :0, TELL 0 :1, TELL 1 :3");
    // it is the last
    trimmed("?a<b{!a;}?c<d{}", 1, "< 16 0 1 :0, JUMPNOT 16 3 :0, TELL 0 :1");
    // those between go
    trimmed("?a<b{!a;?c<d{}}!b;", 1, "< 16 0 1 :0, JUMPNOT 16 3 :0, TELL 0 :1, TELL 1 :3");
    trimmed("?a<b{!a;?1<2{}}{!b;?3<4{}}!c;", 6,
        "< 16 0 1 :0, JUMPNOT 16 4 :0, TELL 0 :1, JUMP 5 :0, TELL 1 :3, TELL 2 :5");
    // those ahead of the jump go
    trimmed("?1<2{}?a<b{!a;}{!b;}", 3, "< 19 0 1 :1, JUMPNOT 19 4 :1, TELL 0 :2, JUMP 5 :1, TELL 1 :3");
    // those behind where it leads go
    trimmed("?a<b{!a;}!b;?c<d{}!c;", 1, "< 16 0 1 :0, JUMPNOT 16 3 :0, TELL 0 :1, TELL 1 :2, TELL 2 :4");
    Both.says("?a<b{!1;?1<2{}}{!2;?3<4{}}!3;", 0, 1, 1, 3);
    Both.says("?a<b{!1;?1<2{}}{!2;?3<4{}}!3;", 1, 0, 2, 3);
  }

  private static void trimmed(String text, int went, String want) {
    GuardedMoves x = Check.lowered(text, 400);
    Check.due("trim() of " + text, x.trim(), went);
    Check.due("code of " + text, Check.code(x), want);
  }

  private static void ofAStep() {
    Check.sentence("Of a STEP: its code (what = 0), its numbers (1 .. 4), its STATEMENT (5).");
    GuardedMoves x = Check.lowered("!a;?a<b{c=@d;}", 400);
    int[][] due = {
      {18, 0, 0, 0, 0, 0}, {12, 16, 0, 1, 0, 1}, {0, 17, 0, 0, 0, 2}, {13, 18, 16, 3, 17, 2}, {14, 19, 18, 0, 0, 2},
      {13, 20, 16, 19, 2, 1}, {1, 2, 20, 0, 0, 1}
    };
    Check.due("count(1)", x.count(1), due.length);
    for (int i = 0; i < due.length; i++) {
      for (int what = 0; what < 6; what++) {
        Check.due("step(" + i + ", " + what + ")", x.step(i, what), due[i][what]);
      }
    }
    Check.index("step(7, 0)", () -> x.step(7, 0));
    Check.index("step(-1, 0)", () -> x.step(-1, 0));
    GuardedMoves y = Check.of("a=1;");
    Check.index("step(0, 0) without CODE", () -> y.step(0, 0));
    y.lower(0);
    Check.due("step(0, 0)", y.step(0, 0), 0);
    Check.feed(y, "x");
    y.read();
    Check.due("step(0, 2) behind a refused read()", y.step(0, 2), 1);
  }

  private static void anotherWhatOfAStep() {
    Check.sentence("IllegalArgument: another what.");
    GuardedMoves x = Check.lowered("a=1;", 0);
    for (int what : new int[] {-1, 6, 7, LEAST, MOST}) {
      Check.argument("step(0, " + what + ")", () -> x.step(0, what));
      Check.index("step(1, " + what + ")", () -> x.step(1, what));
    }
    Check.due("step(0, 5)", x.step(0, 5), 0);
  }

  private static void toldAsItIs() {
    Check.sentence("The text is run as it is told: how it ended.");
    GuardedMoves x = new GuardedMoves();
    Check.due("tell() before any read()", x.tell(), 0);
    Check.feed(x, "!1;");
    Check.due("tell() ahead of read()", x.tell(), 0);
    Check.due("count(5)", x.count(5), 0);
    x.read();
    Check.due("tell() without CODE", x.tell(), 0);
    Check.due("count(5)", x.count(5), 1);
    Check.feed(x, "!");
    x.read();
    Check.due("tell() behind a refused read()", x.tell(), 0);
    Check.due("count(5)", x.count(5), 1);
    // ? are told as they are, CONVERTED or not
    GuardedMoves y = Check.lowered("?a=a{b=1;c=1/0;}", 400);
    Check.due("tell()", y.tell(), 1);
    Check.due("left(1)", y.left(1), 1);
    Check.due("count(8)", y.count(8), 3);
  }

  private static void thereIsNoCode() {
    Check.sentence("The CODE is run: how it ended. IllegalState: there is none.");
    GuardedMoves x = new GuardedMoves();
    Check.state("run() of a new object", () -> x.run());
    Check.feed(x, "a=5;!a;b=1/0;");
    x.read();
    Check.state("run() behind read()", () -> x.run());
    Check.due("tell()", x.tell(), 1);
    String before = Check.answers(x);
    Check.state("run()", () -> x.run());
    Check.due("answers behind a refused run()", Check.answers(x), before);
    Check.argument("lower(401)", () -> x.lower(401));
    Check.state("run() behind a refused lower()", () -> x.run());
    x.lower(0);
    Check.due("run()", x.run(), 1);
    Check.feed(x, "x");
    x.read();
    Check.due("run() behind a refused read()", x.run(), 1);
    x.trim();
    Check.due("run() behind trim()", x.run(), 1);
  }

  private static void leftBeforeAny() {
    Check.sentence("Of the latest run a VARIABLE (0 before any).");
    GuardedMoves x = new GuardedMoves();
    x.variable(0, 5);
    x.variable(15, 6);
    Check.due("left(0) before any", x.left(0), 0);
    Check.due("left(15) before any", x.left(15), 0);
    Check.state("run()", () -> x.run());
    Check.due("left(0) behind a refused run()", x.left(0), 0);
    x.tell();
    Check.due("left(0)", x.left(0), 5);
    Check.due("left(15)", x.left(15), 6);
    for (int wrong : new int[] {-1, 16, LEAST, MOST}) {
      Check.index("left(" + wrong + ")", () -> x.left(wrong));
    }
    // registers from 16 on are no VARIABLES
    GuardedMoves y = Check.lowered("!7;", 0);
    y.run();
    Check.index("left(16)", () -> y.left(16));
  }

  private static void keptBeforeAny() {
    Check.sentence("Of the latest run a word (0 before any).");
    GuardedMoves x = new GuardedMoves();
    x.word(0, 5);
    x.word(31, 6);
    Check.due("kept(0) before any", x.kept(0), 0);
    Check.due("kept(31) before any", x.kept(31), 0);
    Check.state("run()", () -> x.run());
    Check.due("kept(0) behind a refused run()", x.kept(0), 0);
    x.tell();
    Check.due("kept(0)", x.kept(0), 5);
    Check.due("kept(31)", x.kept(31), 6);
    for (int wrong : new int[] {-1, 32, LEAST, MOST}) {
      Check.index("kept(" + wrong + ")", () -> x.kept(wrong));
    }
  }

  private static void ofTheLatestRun() {
    Check.sentence("Of the latest run");
    GuardedMoves x = Check.lowered("a=a+1;@0=a;!a;?a=a{b=1/c;}", 400);
    Check.due("run()", x.run(), 1);
    String first = Check.left(x);
    x.variable(0, 9);
    x.word(0, 9);
    x.lower(0);
    x.trim();
    Check.feed(x, "!1;!2;");
    x.read();
    Check.due("what the run left, behind other calls", Check.left(x), first);
    Check.due("count(7)", x.count(7), 4);
    Check.due("count(8)", x.count(8), 10);
    Check.due("tell()", x.tell(), 0);
    Check.due("left(0)", x.left(0), 9);
    Check.due("kept(0)", x.kept(0), 9);
    Check.due("count(5)", x.count(5), 2);
    Check.due("count(7)", x.count(7), -1);
    Check.due("count(8)", x.count(8), 2);
  }

  private static void numbersOfTheOutput() {
    Check.sentence("Number i of the OUTPUT of the latest run.");
    GuardedMoves x = Check.of("!3;!-2147483647;?a<b{!5;}");
    Check.index("output(0) before any", () -> x.output(0));
    x.tell();
    Check.due("output(0)", x.output(0), 3);
    Check.due("output(1)", x.output(1), -MOST);
    Check.index("output(2)", () -> x.output(2));
    Check.index("output(-1)", () -> x.output(-1));
    x.variable(1, 1);
    x.tell();
    Check.due("output(2)", x.output(2), 5);
    Check.index("output(3)", () -> x.output(3));
    Check.feed(x, "a=1;");
    x.read();
    x.tell();
    Check.index("output(0) of a run without", () -> x.output(0));
    StringBuilder sixty = new StringBuilder();
    for (int i = 0; i < 60; i++) {
      sixty.append("!").append(i).append(";");
    }
    GuardedMoves y = Check.lowered(sixty.toString(), 0);
    for (int round = 0; round < 2; round++) {
      Check.due("how it ended", round == 0 ? y.tell() : y.run(), 0);
      Check.due("count(5)", y.count(5), 60);
      for (int i = 0; i < 60; i++) {
        Check.due("output(" + i + ")", y.output(i), i);
      }
      Check.index("output(60)", () -> y.output(60));
    }
  }

  private static void counts() {
    Check.sentence("STEPS (1; 0 without CODE), registers (2; 16 without), jumps (3: JUMP and JUMPNOT), CONVERTED ? (4)");
    GuardedMoves x = Check.of("?a<b{!1;}{!2;}?a<b{c=1;}?a<b{}");
    count(x, 6, 0, 16, 0, 0, 0, 0);
    x.lower(0);
    count(x, 6, 12, 21, 4, 0, 0, 0);
    x.lower(1);
    count(x, 6, 11, 21, 3, 1, 0, 0);
    x.lower(400);
    count(x, 6, 12, 23, 2, 2, 0, 0);
    x.trim();
    count(x, 6, 11, 23, 2, 2, 0, 0);
    x.feed('x', 1);
    count(x, 6, 11, 23, 2, 2, 0, 1);
    x.read();
    count(x, 6, 11, 23, 2, 2, 0, 1);
    x.run();
    count(x, 6, 11, 23, 2, 2, 1, 1);
    Check.feed(x, Check.repeat(" ", 599));
    count(x, 6, 11, 23, 2, 2, 1, 600);
    GuardedMoves y = Check.of(Check.repeat("?a=b{}", 60));
    y.lower(1);
    count(y, 60, 60, 76, 0, 60, 0, 0);
    y.lower(0);
    count(y, 60, 120, 76, 60, 0, 0, 0);
    // of a text that is shorter than the one before, and of none
    y.lower(400);
    Check.feed(y, "?a=b{}");
    y.read();
    y.lower(400);
    count(y, 1, 1, 17, 0, 1, 0, 0);
    y.read();
    y.lower(400);
    count(y, 0, 0, 16, 0, 0, 0, 0);
  }

  private static void count(GuardedMoves x, int... due) {
    for (int what = 0; what < due.length; what++) {
      Check.due("count(" + what + ")", x.count(what), due[what]);
    }
  }

  private static void endedAndDone() {
    Check.sentence("the STATEMENT where the latest run ended by 1 or 2 (7; NONE), STATEMENTS or STEPS that it did (8)");
    GuardedMoves x = Check.of("?a<b{!1;!2;}{!3;}c=1/d;!4;");
    done(x, -1, 0);
    x.tell();
    done(x, 4, 3);
    x.variable(1, 1);
    x.tell();
    done(x, 4, 4);
    x.variable(3, 1);
    x.tell();
    done(x, -1, 5);
    x.lower(0);
    done(x, -1, 5);
    x.run();
    done(x, -1, 11);
    x.variable(3, 0);
    x.run();
    done(x, 4, 9);
    x.variable(1, 0);
    x.run();
    done(x, 4, 6);
    GuardedMoves y = Check.lowered("a=1/0;", 0);
    y.tell();
    done(y, 0, 1);
    y.run();
    done(y, 0, 3);
    y.read();
    y.tell();
    done(y, -1, 0);
  }

  private static void done(GuardedMoves x, int where, int did) {
    Check.due("count(7)", x.count(7), where);
    Check.due("count(8)", x.count(8), did);
  }

  private static void anotherWhatOfCount() {
    Check.sentence("How many STATEMENTS (what = 0)");
    GuardedMoves x = Check.lowered("!1;", 0);
    x.run();
    for (int what : new int[] {-1, 9, 10, LEAST, MOST}) {
      Check.argument("count(" + what + ")", () -> x.count(what));
    }
    Check.due("count(0)", x.count(0), 1);
    Check.due("count(8)", x.count(8), 2);
  }
}
