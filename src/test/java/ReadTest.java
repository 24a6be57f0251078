/** Promises 5 and 6: texts are read, faults are told with their places. */
public final class ReadTest {
  public static void main(String[] args) {
    texts();
    wrongBytes();
    largeNumbers();
    manyStatements();
    deepBranches();
    aFaultChangesNothing();
    aTextTakesTheOldOnesPlace();
    nothingOfOldTextsStays();
    theTapesEndIsTheEnd();
    Check.end();
  }

  private static void texts() {
    Check.good("", 0);
    Check.good(" \n ", 0);
    Check.good("a=1;", 1);
    Check.good("p=a;", 1);
    Check.good(" a\n= 1 ; b = - \n 3 - - 1 ;", 2);
    Check.good("a=b+1;a=b-c;a=1*-2;a=b/c;a=b%c;a=b&c;a=b|c;a=b^c;", 8);
    Check.good("a=@b;a = @ - 3;@a=b; @ -1 = 2 ;!a;!-7;", 6);
    Check.good("?a=b{}?a#1{}{}?-1<2{a=1;}{a=2;b=3;}", 6);
    Check.good("? a < b { } \n { ? c = d { ! a ; } { } }", 3);
    Check.good("?a=b{?a=b{}}?a=b{}", 3);
  }

  private static void wrongBytes() {
    Check.bad("q=1;", 1, 0);
    Check.bad("A=1;", 1, 0);
    Check.bad("`=1;", 1, 0);
    Check.bad("1=a;", 1, 0);
    Check.bad(";", 1, 0);
    Check.bad("{", 1, 0);
    Check.bad("}", 1, 0);
    Check.bad("a", 1, 1);
    Check.bad("a ", 1, 2);
    Check.bad("a=", 1, 2);
    Check.bad("a=1", 1, 3);
    Check.bad("a=1\t;", 1, 3);
    Check.bad("a=1\r;", 1, 3);
    Check.bad("a=1 2;", 1, 4);
    Check.bad("a=1 99999999999;", 1, 4);
    Check.bad("a=b c;", 1, 4);
    Check.bad("a=bc;", 1, 3);
    Check.bad("a=--1;", 1, 3);
    Check.bad("a=-b;", 1, 3);
    Check.bad("a=+1;", 1, 2);
    Check.bad("a=b*;", 1, 4);
    Check.bad("a=b**c;", 1, 4);
    Check.bad("a=b+c+d;", 1, 5);
    Check.bad("a=b<c;", 1, 3);
    Check.bad("a=@b+1;", 1, 4);
    Check.bad("a=b+@1;", 1, 4);
    Check.bad("a=@@b;", 1, 3);
    Check.bad("a:=1;", 1, 1);
    Check.bad("@a;", 1, 2);
    Check.bad("@a=b+1;", 1, 4);
    Check.bad("@a=@b;", 1, 3);
    Check.bad("!a+1;", 1, 2);
    Check.bad("!@a;", 1, 1);
    Check.bad("?a{}", 1, 2);
    Check.bad("?a>b{}", 1, 2);
    Check.bad("?a==b{}", 1, 3);
    Check.bad("?a=b;", 1, 4);
    Check.bad("?a=b{", 1, 5);
    Check.bad("?a=b{ \n", 1, 7);
    Check.bad("?a=b{a=1;", 1, 9);
    Check.bad("?a=b{}}", 1, 6);
    Check.bad("?a=b{}{", 1, 7);
    Check.bad("?a=b{}{}{}", 1, 8);
    Check.bad("?a=b{};", 1, 6);
    Check.bad("?a=b{a=1}", 1, 8);
    Check.bad("?a=b{{}}", 1, 5);
    Check.bad("a=1;\u00ff", 1, 4);
    Check.bad("a=1;\0", 1, 4);
  }

  private static void largeNumbers() {
    Check.good("a=2147483647;b=-2147483647;", 2);
    Check.good("a=" + Check.repeat("0", 500) + "7;", 1);
    Check.bad("a=2147483648;", 2, 2);
    Check.bad("a=-2147483648;", 2, 3);
    Check.bad("a= - 2147483648;", 2, 5);
    Check.bad("a=4294967296;", 2, 2);
    Check.bad("a=18446744073709551617;", 2, 2);
    Check.bad("a=" + Check.repeat("9", 590) + ";", 2, 2);
    Check.bad("a=9999999999", 2, 2);
    Check.bad("a=9999999999x", 2, 2);
    Check.bad("a=1+2147483648;", 2, 4);
    Check.bad("@2147483648=1;", 2, 1);
    Check.bad("!a;a=b;?a<3000000000{}", 2, 10);
  }

  private static void manyStatements() {
    String sixty = Check.repeat("a=1;", 60);
    Check.good(sixty, 60);
    Check.good(sixty + " \n", 60);
    Check.bad(sixty + "a=1;", 3, 240);
    Check.bad(sixty + " a", 3, 241);
    Check.bad(sixty + "!", 3, 240);
    Check.bad(sixty + "@", 3, 240);
    Check.bad(sixty + "?", 3, 240);
    Check.bad(sixty + "x", 1, 240);
    Check.bad(sixty + "}", 1, 240);
    String within = "?a=b{" + Check.repeat("a=1;", 59);
    Check.good(within + "}", 60);
    Check.bad(within + "a=1;}", 3, 241);
    Check.bad(within + "}{b=1;}", 3, 243);
    Check.good(within + "}{}", 60);
  }

  private static void deepBranches() {
    String six = Check.repeat("?a=b{", 6);
    Check.good(six + Check.repeat("}", 6), 6);
    Check.good(six + "a=1;" + Check.repeat("}", 6), 7);
    Check.good(six + "}}{?a=b{}}}}}}", 7);
    Check.bad(six + "?a=b{}", 4, 30);
    Check.bad(six + "a=1; ?", 4, 35);
    Check.bad(six + "}{?", 4, 32);
    Check.bad(six + "x", 1, 30);
    Check.bad(Check.repeat("a=1;", 54) + six + "?", 3, 246);
    Check.bad(Check.repeat("a=1;", 53) + six + "?", 4, 242);
  }

  private static void aFaultChangesNothing() {
    GuardedMoves x = Check.lowered("?a<b{c=1;}!c;", 400);
    x.variable(1, 1);
    x.run();
    Check.feed(x, "a=1");
    String before = Check.code(x);
    Check.due("read()", x.read(), -4);
    Check.due("fault()", x.fault(), 1);
    Check.due("count(0)", x.count(0), 3);
    Check.due("count(4)", x.count(4), 1);
    Check.due("count(6)", x.count(6), 3);
    Check.due("statement(2, 0)", x.statement(2, 0), 4);
    Check.due("statement(0, 2)", x.statement(0, 2), 1);
    Check.due("code", Check.code(x), before);
    Check.due("output(0)", x.output(0), 1);
    Check.due("tell()", x.tell(), 0);
    Check.due("output(0)", x.output(0), 1);
    Check.due("run()", x.run(), 0);
    Check.feed(x, ";");
    Check.due("read() with the rest", x.read(), 1);
    Check.due("fault()", x.fault(), 0);
  }

  private static void aTextTakesTheOldOnesPlace() {
    GuardedMoves x = Check.lowered("?a<b{c=1;}!5;", 400);
    x.run();
    Check.feed(x, "?a<b{d=7;}b=3;");
    Check.due("read()", x.read(), 3);
    Check.state("run()", () -> x.run());
    Check.index("step(0, 0)", () -> x.step(0, 0));
    Check.due("trim()", x.trim(), 0);
    Check.due("count(1)", x.count(1), 0);
    Check.due("count(2)", x.count(2), 16);
    Check.due("count(4)", x.count(4), 0);
    Check.due("statement(0, 2)", x.statement(0, 2), 0);
    Check.due("statement(0, 3)", x.statement(0, 3), 0);
    Check.due("the latest run stays", x.output(0), 5);
    x.tell();
    Check.due("left(1)", x.left(1), 3);
    Check.due("read() of the empty tape", x.read(), 0);
    Check.due("count(0)", x.count(0), 0);
    x.tell();
    Check.due("left(1)", x.left(1), 0);
  }

  /** Reads text upon text with one object: each must be as with a new one. */
  private static void nothingOfOldTextsStays() {
    String[] texts = {
      "?a<b{?c<d{}{}}{?e<f{g=h;}}?a<b{a=1;}",
      "@1=2;!a;a=@b;a=b+c;a=-3;?a=b{}",
      "a=1;b=c;c=d%e;?a=b{c=2;}",
      "b=a;a=2;d=4;?b#a{}{a=b;}",
      "?a<1{b=2;?b<3{c=4;}}",
      "a=1;",
      "a=b;a=b;a=b;a=b;a=b;a=b;a=b;"
    };
    for (int begin = 0; begin < texts.length; begin++) {
      GuardedMoves x = new GuardedMoves();
      for (int i = 0; i < texts.length; i++) {
        String text = texts[(begin + i * 3) % texts.length];
        Check.feed(x, text);
        x.read();
        x.lower(400);
        GuardedMoves y = Check.lowered(text, 400);
        Check.due("code of " + text + " behind others", Check.code(x), Check.code(y));
        Check.due("statements of " + text + " behind others", rows(x), rows(y));
        Check.due("tell() of " + text + " behind others", x.tell(), y.tell());
        for (int what = 0; what <= 8; what++) {
          Check.due("count(" + what + ") of " + text + " behind others", x.count(what), y.count(what));
        }
      }
    }
  }

  private static String rows(GuardedMoves x) {
    StringBuilder all = new StringBuilder();
    for (int s = 0; s < x.count(0); s++) {
      for (int what = 0; what < 4; what++) {
        all.append(x.statement(s, what)).append(what == 3 ? ", " : " ");
      }
    }
    return all.toString();
  }

  private static void theTapesEndIsTheEnd() {
    GuardedMoves x = Check.of("a=12345;");
    Check.feed(x, "a=1");
    Check.due("read() of a=1 upon an old tape", x.read(), -4);
    Check.feed(x, ";");
    Check.due("read() of a=1;", x.read(), 1);
    x.tell();
    Check.due("left(0)", x.left(0), 1);
    Check.bad("a=" + Check.repeat("0", 598), 1, 600);
    Check.bad("a=" + Check.repeat(" ", 598), 1, 600);
    Check.good(Check.repeat(" ", 596) + "a=1;", 1);
    Check.good(Check.repeat("?a=b{}", 60) + Check.repeat("\n", 240), 60);
  }
}
