/** "1 TEXTS" of the document: a test for each sentence that names a boundary, the sentence beside it. */
public final class TextBoundsTest {
  private static final int LEAST = Integer.MIN_VALUE;
  private static final int MOST = Integer.MAX_VALUE;
  private static final String VARIABLES = "abcdefghijklmnop";
  private static final String VALUE = VARIABLES + "0123456789-";
  private static final String BEGINS = VARIABLES + "@!?";
  private static final String OPERATIONS = "+-*/%&|^";

  /** What may stand behind a beginning of a text, blanks and line ends apart: beginning, then bytes. */
  private static final String[] NEXT = {
    "", BEGINS,
    "a", "=",
    "a=", VALUE + "@",
    "a=-", "0123456789",
    "a=b", OPERATIONS + ";",
    "a=1", OPERATIONS + ";0123456789",
    "a=1 ", OPERATIONS + ";",
    "a=-1\n", OPERATIONS + ";",
    "a=b+", VALUE,
    "a=1-", VALUE,
    "a=b+-", "0123456789",
    "a=b+c", ";",
    "a=b+1", ";0123456789",
    "a=b+1 ", ";",
    "a=b;", BEGINS,
    "a=@", VALUE,
    "a=@b", ";",
    "a=@b;", BEGINS,
    "@", VALUE,
    "@a", "=",
    "@1", "=0123456789",
    "@a=", VALUE,
    "@a=b", ";",
    "@a=b;", BEGINS,
    "!", VALUE,
    "!-", "0123456789",
    "!a", ";",
    "!a;", BEGINS,
    "?", VALUE,
    "?a", "=#<",
    "?a=", VALUE,
    "?a<b", "{",
    "?a<1", "{0123456789",
    "?a<b{", BEGINS + "}",
    "?a<b{a=b;", BEGINS + "}",
    "?a<b{}", BEGINS + "{",
    "?a<b{a=b;}", BEGINS + "{",
    "?a<b{}{", BEGINS + "}",
    "?a<b{}{a=b;", BEGINS + "}",
    "?a<b{}{}", BEGINS,
    "?a<b{?a<b{", BEGINS + "}",
    "?a<b{?a<b{}", BEGINS + "{}",
    "?a<b{?a<b{}{", BEGINS + "}",
    "?a<b{?a<b{}{}", BEGINS + "}",
    "?a<b{?a<b{}}", BEGINS + "{",
    "?a<b{}{?a<b{}", BEGINS + "{}",
    "?a<b{}{?a<b{}}", BEGINS
  };

  public static void main(String[] args) {
    variables();
    wrapping();
    memory();
    tape();
    blanks();
    longNumbers();
    anyNumberOfStatements();
    sides();
    numbers();
    cutOff();
    leastByMinusOne();
    wordsAreSet();
    secondOnesIfThereAreSome();
    relations();
    byZero();
    noSuchWord();
    numberedAsTheyBegin();
    bytesThatCannotStand();
    theEnd();
    largeNumbers();
    statement61();
    branchInSixOthers();
    ofOnePlace();
    Check.end();
  }

  private static void variables() {
    Check.sentence("VARIABLES are a .. p");
    String[] places = {"~=1;", "a=~;", "a=~+1;", "a=1+~;", "a=@~;", "@~=1;", "@1=~;", "!~;", "?~<1{}", "?1<~{}"};
    for (String place : places) {
      int at = place.indexOf('~');
      Check.good(place.replace('~', 'a'), 1);
      Check.good(place.replace('~', 'p'), 1);
      Check.bad(place.replace('~', '`'), 1, at);
      Check.bad(place.replace('~', 'q'), 1, at);
      Check.bad(place.replace('~', 'A'), 1, at);
      Check.bad(place.replace('~', 'P'), 1, at);
    }
    for (int v = 0; v < 16; v++) {
      char name = VARIABLES.charAt(v);
      GuardedMoves x = Check.of(name + "=7;");
      x.tell();
      for (int other = 0; other < 16; other++) {
        Check.due("left(" + other + ") behind " + name + "=7;", x.left(other), other == v ? 7 : 0);
      }
      GuardedMoves y = Check.of("!" + name + ";");
      y.variable(v, 8);
      y.tell();
      Check.due("output(0) of !" + name + ";", y.output(0), 8);
    }
  }

  private static void wrapping() {
    Check.sentence("whole numbers of 32 bits (they wrap)");
    Both.operation("+", MOST, 1, LEAST);
    Both.operation("+", MOST, 0, MOST);
    Both.operation("+", MOST, MOST, -2);
    Both.operation("+", LEAST, -1, MOST);
    Both.operation("+", LEAST, LEAST, 0);
    Both.operation("-", LEAST, 1, MOST);
    Both.operation("-", LEAST, 0, LEAST);
    Both.operation("-", MOST, -1, LEAST);
    Both.operation("-", 0, LEAST, LEAST);
    Both.operation("*", LEAST, -1, LEAST);
    Both.operation("*", MOST, 2, -2);
    Both.operation("*", 65536, 32768, LEAST);
    Both.operation("*", 65536, 65536, 0);
    Both.operation("*", 46341, 46341, -2147479015);
    Both.says("a=2147483647;a=a+1;!a;a=a-1;!a;", 0, 0, LEAST, MOST);
    Both.says("a=-2147483647;a=a-1;!a;", 0, 0, LEAST);
  }

  private static void memory() {
    Check.sentence("THE MEMORY has 32 words, 0 .. 31.");
    StringBuilder fill = new StringBuilder();
    for (int i = 0; i < 32; i++) {
      fill.append("@").append(i).append("=").append(100 + i).append(";");
    }
    GuardedMoves x = Check.lowered(fill.toString(), 0);
    for (int round = 0; round < 2; round++) {
      Check.due("how it ended", round == 0 ? x.tell() : x.run(), 0);
      for (int i = 0; i < 32; i++) {
        Check.due("kept(" + i + ")", x.kept(i), 100 + i);
      }
    }
    Both.says("@a=5;@b=6;c=@a;d=@b;!c;!d;", 0, 31, 5, 6);
    Both.ends("c=@a;", -1, 0, 2, 0, 0);
    Both.ends("c=@a;", 32, 0, 2, 0, 0);
    Both.ends("@a=b;", -1, 0, 2, 0, 0);
    Both.ends("@a=b;", 32, 0, 2, 0, 0);
  }

  private static void tape() {
    Check.sentence("THE TAPE has at most 600 bytes.");
    Check.good(Check.repeat(" ", 596) + "a=1;", 1);
    Check.bad(Check.repeat(" ", 596) + "a=1:", 1, 599);
    Check.bad(Check.repeat(" ", 597) + "a=1", 1, 600);
    Check.good("a=1;" + Check.repeat("\n", 596), 1);
    GuardedMoves x = Check.of("!" + Check.repeat("0", 588) + "2147483647;");
    x.tell();
    Check.due("output(0) of a NUMBER of 598 figures", x.output(0), MOST);
    GuardedMoves y = Check.fed(Check.repeat(" ", 600));
    Check.state("feed of byte 601", () -> y.feed(' ', 1));
    Check.due("count(6)", y.count(6), 600);
  }

  private static void blanks() {
    Check.sentence("Blanks (32) and line ends (10) may stand anywhere but within a NUMBER");
    String[] signs = {
      "a", "=", "12", ";", "b", "=", "-", "3", "+", "c", ";", "d", "=", "@", "-", "4", ";", "@", "e", "=", "5", ";",
      "!", "-", "6", ";", "?", "f", "<", "7", "{", "g", "=", "h", ";", "}", "{", "?", "-", "8", "=", "i", "{", "}",
      "{", "}", "}", "?", "a", "#", "b", "{", "}", "p", "=", "o", "%", "n", ";"
    };
    String plain = String.join("", signs);
    String code = Check.code(Check.lowered(plain, 400));
    for (String gap : new String[] {" ", "\n", " \n\n  "}) {
      Check.due("code with blanks everywhere", Check.code(Check.lowered(spaced(signs, gap, -1), 400)), code);
      for (int at = 0; at <= signs.length; at++) {
        Check.due("code with a blank at sign " + at, Check.code(Check.lowered(spaced(signs, gap, at), 400)), code);
      }
    }
    Check.bad("a=1 2;", 1, 4);
    Check.bad("a=1\n2;", 1, 4);
    Check.bad("a=-1 2;", 1, 5);
    Check.bad("a=b+1 2;", 1, 6);
    Check.bad("?a<1 2{}", 1, 5);
    Check.bad("@1 2=a;", 1, 3);
    int[] others = {0, 9, 11, 12, 13, 31, 127, 128, 133, 138, 160, 255};
    for (int other : others) {
      Check.bad((char) other + "a=1;", 1, 0);
      Check.bad("a" + (char) other + "=1;", 1, 1);
      Check.bad("a=1;" + (char) other, 1, 4);
    }
  }

  /** All signs, with a gap ahead of sign at and behind the last one; ahead of each for -1. */
  private static String spaced(String[] signs, String gap, int at) {
    StringBuilder all = new StringBuilder();
    for (int i = 0; i < signs.length; i++) {
      all.append(at == -1 || at == i ? gap : "").append(signs[i]);
    }
    return all.append(at == -1 || at == signs.length ? gap : "").toString();
  }

  private static void longNumbers() {
    Check.sentence("NUMBERS are as long as may be.");
    Both.says("!12;!120;!0012;a=12-10;!a;", 0, 0, 12, 120, 12, 2);
    Both.says("!" + Check.repeat("0", 500) + "7;", 0, 0, 7);
    Check.bad("a=12b;", 1, 4);
    Check.bad("a=1b;", 1, 3);
    Check.bad("a=123", 1, 5);
    Check.bad("a=21474836470;", 2, 2);
  }

  private static void anyNumberOfStatements() {
    Check.sentence("text: any number of statements");
    Check.good("", 0);
    Check.good(" ", 0);
    Check.good("\n", 0);
    Check.good("a=1;", 1);
    Check.good(Check.repeat("a=1;", 59), 59);
    Check.good(Check.repeat("a=1;", 60), 60);
    GuardedMoves x = new GuardedMoves();
    Check.due("read() of an empty tape", x.read(), 0);
    Check.due("tell() of no statements", x.tell(), 0);
    Check.due("count(8) of no statements", x.count(8), 0);
    Check.due("lower(400) of no statements", x.lower(400), 0);
    Check.due("run() of no steps", x.run(), 0);
    Check.due("count(8) of no steps", x.count(8), 0);
    Check.due("trim() of no steps", x.trim(), 0);
  }

  private static void sides() {
    Check.sentence("? VALUE REL VALUE { statements } { statements }");
    Check.good("?a=b{}", 1);
    Check.good("?a=b{}{}", 1);
    Check.good("?a=b{a=1;}{}", 2);
    Check.good("?a=b{}{a=1;}", 2);
    Check.good("?a=b{a=1;b=2;}{c=3;d=4;}", 5);
    Check.bad("?a=b{}{}{}", 1, 8);
    Check.bad("?a=b{?a=b{}{}{}}", 1, 13);
    Check.bad("?a=b{}a=1;{}", 1, 10);
    Check.bad("?a=b{};{}", 1, 6);
    Check.bad("?a=b", 1, 4);
    // the second pair of braces belongs to the ? that has just been closed
    GuardedMoves x = Check.of("?a=b{?a=b{}{!1;}}{!2;}");
    Check.due("statement(2, 1)", x.statement(2, 1), 2);
    Check.due("statement(3, 1)", x.statement(3, 1), 1);
  }

  private static void numbers() {
    Check.sentence("NUMBER (figures, 0 .. 2147483647), or - NUMBER");
    Both.says("!0;!-0;!2147483647;!-2147483647;!2147483646;", 0, 0, 0, 0, MOST, -MOST, MOST - 1);
    Both.says("!0123456789;!- 9876;", 0, 0, 123456789, -9876);
    Check.bad("!/;", 1, 1);
    Check.bad("!:;", 1, 1);
    Check.bad("!1/;", 1, 2);
    Check.bad("!1:;", 1, 2);
    Check.bad("!--1;", 1, 2);
    Check.bad("!-a;", 1, 2);
    Check.bad("!-;", 1, 2);
    Check.bad("!+1;", 1, 1);
    Check.bad("!2147483648;", 2, 1);
    Check.bad("!-2147483648;", 2, 2);
  }

  private static void cutOff() {
    Check.sentence("/ and % cut off toward 0");
    int[][] rows = {
      {7, 2, 3, 1}, {-7, 2, -3, -1}, {7, -2, -3, 1}, {-7, -2, 3, -1}, {1, 2, 0, 1}, {-1, 2, 0, -1}, {0, 5, 0, 0},
      {6, 3, 2, 0}, {-6, 3, -2, 0}, {MOST, LEAST, 0, MOST}, {LEAST, MOST, -1, -1}, {LEAST, 2, -1073741824, 0}
    };
    for (int[] row : rows) {
      Both.operation("/", row[0], row[1], row[2]);
      Both.operation("%", row[0], row[1], row[3]);
    }
  }

  private static void leastByMinusOne() {
    Check.sentence("the least by -1: itself, 0");
    Both.operation("/", LEAST, -1, LEAST);
    Both.operation("%", LEAST, -1, 0);
    Both.operation("/", LEAST, 1, LEAST);
    Both.operation("%", LEAST, 1, 0);
    Both.operation("/", LEAST + 1, -1, MOST);
    Both.operation("%", LEAST + 1, -1, 0);
    Both.operation("/", MOST, -1, -MOST);
    Both.says("c=a/-1;d=a%-1;?a=a{e=a/-1;f=a%-1;}!c;!d;!e;!f;", LEAST, 0, LEAST, 0, LEAST, 0);
  }

  private static void wordsAreSet() {
    Check.sentence("word VALUE becomes the other VALUE");
    Both.says("@3=4;c=@3;d=@4;!c;!d;", 0, 0, 4, 0);
    Both.says("?a=a{@3=4;}c=@3;d=@4;!c;!d;", 0, 0, 4, 0);
    Both.says("@a=b;c=@a;!c;", 31, LEAST, LEAST);
  }

  private static void secondOnesIfThereAreSome() {
    Check.sentence("otherwise the second ones, if there are some");
    Both.says("?a<b{!1;}{!2;}!3;", 0, 1, 1, 3);
    Both.says("?a<b{!1;}{!2;}!3;", 1, 0, 2, 3);
    Both.says("?a<b{!1;}!3;", 1, 0, 3);
    Both.says("?a<b{!1;}{}!3;", 1, 0, 3);
    Both.says("?a<b{}{!2;}!3;", 0, 1, 3);
    Both.says("?a<b{}{}!3;", 0, 1, 3);
    Both.says("?a<b{}!3;", 1, 0, 3);
    Both.says("?a<b{c=1;}{}!c;", 1, 0, 0);
    Both.says("?a<b{c=1;}!c;", 1, 0, 0);
    Both.says("?a<b{}{c=2;}!c;", 0, 1, 0);
    Both.says("?a<b{}{c=2;}!c;", 1, 0, 2);
    Both.says("?a<b{?b<a{!1;}{!2;}}", 0, 1, 2);
    Both.says("?a<b{?b<a{!1;}}{!2;}", 0, 1);
  }

  private static void relations() {
    Check.sentence("if VALUE is REL VALUE (equal, not, less)");
    relation(1, 1, 1, 0, 0);
    relation(1, 2, 0, 1, 1);
    relation(2, 1, 0, 1, 0);
    relation(-1, 0, 0, 1, 1);
    relation(0, -1, 0, 1, 0);
    relation(LEAST, LEAST, 1, 0, 0);
    relation(LEAST, MOST, 0, 1, 1);
    relation(MOST, LEAST, 0, 1, 0);
    relation(LEAST, 1, 0, 1, 1);
    relation(1, LEAST, 0, 1, 0);
    relation(MOST - 1, MOST, 0, 1, 1);
  }

  private static void relation(int a, int b, int equal, int not, int less) {
    Both.says("?a=b{!1;}{!0;}?a#b{!1;}{!0;}?a<b{!1;}{!0;}", a, b, equal, not, less);
    Both.says("?a=b{c=1;}?a#b{d=1;}?a<b{e=1;}!c;!d;!e;", a, b, equal, not, less);
  }

  private static void byZero() {
    Check.sentence("By 0 it ENDS with DIVISION");
    for (int a : new int[] {0, 1, -1, LEAST, MOST}) {
      Both.ends("!1;c=a/b;!2;", a, 0, 1, 1, 1);
      Both.ends("!1;c=a%b;!2;", a, 0, 1, 1, 1);
      Both.ends("c=a/0;", a, 9, 1, 0, 0);
      Both.ends("c=a%-0;", a, 9, 1, 0, 0);
      Both.ends("?a=a{c=a/b;}!2;", a, 0, 1, 1, 0);
      Both.ends("?a#a{}{c=a%0;}!2;", a, 0, 1, 1, 0);
    }
    Both.operation("/", 5, 1, 5);
    Both.operation("/", 5, -1, -5);
    Both.operation("%", 5, 1, 0);
    GuardedMoves x = Check.of("c=5;c=c/a;d=6;");
    Check.due("tell()", x.tell(), 1);
    Check.due("left(2) at the end", x.left(2), 5);
    Check.due("left(3) at the end", x.left(3), 0);
  }

  private static void noSuchWord() {
    Check.sentence("with no such word with INDEX");
    for (int a : new int[] {-1, 32, LEAST, MOST, 256, -32}) {
      Both.ends("!1;c=@a;!2;", a, 0, 2, 1, 1);
      Both.ends("!1;@a=b;!2;", a, 0, 2, 1, 1);
      Both.ends("?a=a{c=@a;}!2;", a, 0, 2, 1, 0);
      Both.ends("?a#a{}{@a=b;}!2;", a, 0, 2, 1, 0);
    }
    Both.ends("c=@32;", 0, 0, 2, 0, 0);
    Both.ends("c=@-1;", 0, 0, 2, 0, 0);
    Both.ends("@32=a;", 0, 0, 2, 0, 0);
    Both.ends("@-1=a;", 0, 0, 2, 0, 0);
    Both.ends("?a=a{c=@32;}", 0, 0, 2, 1, 0);
    Both.ends("?a=a{@-1=a;}", 0, 0, 2, 1, 0);
    Both.says("c=@a;d=@b;c=@0;d=@31;c=@-0;!c;!d;", 0, 31, 0, 0);
    GuardedMoves x = Check.of("@5=7;c=5;c=@a;@6=8;");
    x.variable(0, 32);
    Check.due("tell()", x.tell(), 2);
    Check.due("left(2) at the end", x.left(2), 5);
    Check.due("kept(5) at the end", x.kept(5), 7);
    Check.due("kept(6) at the end", x.kept(6), 0);
  }

  private static void numberedAsTheyBegin() {
    Check.sentence("STATEMENTS are numbered from 0 on as they begin.");
    GuardedMoves x = Check.of("!a;?a=b{a=b;?a=b{@a=b;}{a=@b;}}{a=b+c;}!a;");
    int[] sorts = {4, 5, 0, 5, 3, 2, 1, 4};
    Check.due("count(0)", x.count(0), sorts.length);
    for (int s = 0; s < sorts.length; s++) {
      Check.due("statement(" + s + ", 0)", x.statement(s, 0), sorts[s]);
    }
    Both.ends("a=1/0;", 0, 0, 1, 0, 0);
    Both.ends("?a=b{}?a=b{c=1;d=1/0;}", 0, 0, 1, 3, 0);
    Both.ends("?a#b{c=1;}{c=1/0;}", 0, 0, 1, 2, 0);
    Both.ends(Check.repeat("a=1;", 59) + "a=1/0;", 0, 0, 1, 59, 0);
  }

  private static void bytesThatCannotStand() {
    Check.sentence("the first byte from the left that can't stand there");
    for (int row = 0; row < NEXT.length; row += 2) {
      for (int next = 0; next < 256; next++) {
        boolean stands = next == ' ' || next == '\n' || NEXT[row + 1].indexOf(next) >= 0;
        String text = NEXT[row] + (char) next;
        if (stands) {
          GuardedMoves x = Check.fed(text);
          int answer = x.read();
          Check.due("byte " + next + " may stand behind " + NEXT[row] + ", " + answer,
              answer >= 0 || answer == -1 - text.length(), true);
        } else {
          Check.bad(text, 1, NEXT[row].length());
          Check.bad(NEXT[row] + " \n" + (char) next, 1, NEXT[row].length() + 2);
        }
      }
    }
    Check.bad("a=1;q=2;r=3;", 1, 4);
    Check.bad("?a=b{x}y", 1, 5);
  }

  private static void theEnd() {
    Check.sentence("or the end (the length)");
    for (int row = 0; row < NEXT.length; row += 2) {
      String text = NEXT[row];
      boolean whole = text.isEmpty() || text.endsWith(";") && text.indexOf('{') < 0
          || text.endsWith("}") && text.chars().filter(c -> c == '{').count() == text.chars().filter(c -> c == '}').count();
      if (whole) {
        int statements = (int) text.chars().filter(c -> c == ';' || c == '?').count();
        Check.good(text, statements);
        Check.good(text + " \n", statements);
      } else {
        Check.bad(text, 1, text.length());
        Check.bad(text + " ", 1, text.length() + 1);
        Check.bad(text + "\n \n", 1, text.length() + 3);
      }
    }
    Check.bad("a=" + Check.repeat(" ", 598), 1, 600);
  }

  private static void largeNumbers() {
    Check.sentence("a NUMBER above 2147483647 (at its first byte)");
    String[] large = {
      "2147483648", "2147483650", "2200000000", "3000000000", "4294967295", "4294967296", "9999999999", "10000000000",
      "9223372036854775807", "9223372036854775808", "18446744073709551616", "18446744073709551617",
      "0000000000000000000002147483648", Check.repeat("9", 500)
    };
    for (String number : large) {
      Check.bad("a=" + number + ";", 2, 2);
      Check.bad("a=-" + number + ";", 2, 3);
      Check.bad("a= - " + number + ";", 2, 5);
      Check.bad("a=b+" + number + ";", 2, 4);
      Check.bad("a=@" + number + ";", 2, 3);
      Check.bad("@" + number + "=a;", 2, 1);
      Check.bad("@a=" + number + ";", 2, 3);
      Check.bad("!" + number + ";", 2, 1);
      Check.bad("?" + number + "=a{}", 2, 1);
      Check.bad("?a=" + number + "{}", 2, 3);
    }
    Check.good("a=2147483647;", 1);
    Check.good("a=-2147483647;", 1);
    Check.good("a=00000000000000002147483647;", 1);
    // it is the first FAULT from the left, whatever stands behind it
    Check.bad("a=2147483648", 2, 2);
    Check.bad("a=2147483648x", 2, 2);
    Check.bad("a=1;b=2147483648;c=2147483648;", 2, 6);
    Check.bad("a=x;b=2147483648;", 1, 2);
  }

  private static void statement61() {
    Check.sentence("a 61st STATEMENT (at its first byte)");
    String sixty = Check.repeat("a=1;", 60);
    Check.good(sixty, 60);
    for (String first : new String[] {"a", "p", "@", "!", "?", "a=1;", "!a;", "?a=b{}"}) {
      Check.bad(sixty + first, 3, 240);
      Check.bad(sixty + " \n" + first, 3, 242);
    }
    Check.good(Check.repeat("a=1;", 59) + "?a=b{}", 60);
    Check.bad(Check.repeat("a=1;", 59) + "?a=b{a=1;}", 3, 241);
    Check.bad(Check.repeat("a=1;", 59) + "?a=b{}{a=1;}", 3, 243);
    Check.bad(Check.repeat("?a=b{}", 60) + "!a;", 3, 360);
    Check.good("?a=b{" + Check.repeat("a=1;", 59) + "}{}", 60);
    Check.bad(sixty + "a=2147483648;", 3, 240);
    Check.bad(Check.repeat("a=1;", 59) + "a=2147483648;!a;", 2, 238);
  }

  private static void branchInSixOthers() {
    Check.sentence("a ? in six others (at it)");
    String five = Check.repeat("?a=b{", 5);
    String six = five + "?a=b{";
    Check.good(five + Check.repeat("}", 5), 5);
    Check.good(six + Check.repeat("}", 6), 6);
    Check.bad(six + "?a=b{}" + Check.repeat("}", 6), 4, 30);
    Check.bad(six + "?", 4, 30);
    Check.bad(six + " ?x", 4, 31);
    Check.bad(six + "}{?a=b{}}", 4, 32);
    Check.bad(six + "}{a=1;?", 4, 36);
    Check.good(six + "a=1;!a;@a=b;" + Check.repeat("}", 6), 9);
    Check.good(six + "}?a=b{}" + Check.repeat("}", 5), 7);
    Check.good(six + "}{}}{?a=b{}}" + Check.repeat("}", 4), 7);
    Check.good(six + Check.repeat("}", 6) + six + Check.repeat("}", 6), 12);
    String second = Check.repeat("?a=b{}{", 6);
    Check.good(second + Check.repeat("}", 6), 6);
    Check.bad(second + "?", 4, 42);
    // in five others it is done as any
    String first = Check.repeat("?a<b{", 6);
    Both.says(first + "!1;" + Check.repeat("}{!2;}", 6), 0, 1, 1);
    Both.says(first + "c=1/b;" + Check.repeat("}{c=@b;}", 6) + "!c;", 0, 1, 1);
    Both.says(first + "c=1/b;" + Check.repeat("}{c=2;}", 6) + "!c;", 1, 0, 2);
    Both.ends(first + "c=1/a;" + Check.repeat("}", 6), 0, 1, 1, 6, 0);
    Both.says(Check.repeat("?b<a{}{", 6) + "!1;" + Check.repeat("}", 6), 0, 1, 1);
    Both.says(Check.repeat("?b<a{}{", 6) + "c=1/b;" + Check.repeat("}", 6) + "!c;", 0, 1, 1);
    Both.ends(Check.repeat("?b<a{}{", 6) + "@a=b;" + Check.repeat("}", 6), -1, 0, 2, 6, 0);
    Both.says("?a<b{}{?a<b{}{?a<b{}{?b<a{?b<a{?b<a{!1;}}}}}}", 1, 0, 1);
  }

  private static void ofOnePlace() {
    Check.sentence("Of one place 1, 2, 3, 4.");
    String six = Check.repeat("?a=b{", 6);
    // 1 and 2: a NUMBER too large where no NUMBER can stand
    Check.bad("a=1 2147483648;", 1, 4);
    Check.bad("2147483648=a;", 1, 0);
    // 1 and 3: what can't begin a statement where the 61st would
    Check.bad(Check.repeat("a=1;", 60) + "x", 1, 240);
    Check.bad(Check.repeat("a=1;", 60) + "}", 1, 240);
    Check.bad(Check.repeat("a=1;", 60) + "2147483648", 1, 240);
    Check.bad(Check.repeat("a=1;", 59) + "a=1b=2;", 1, 239);
    // 1 and 4: a ? in six others where no statement can begin
    Check.bad(six + "a=?", 1, 32);
    // 3 and 4
    Check.bad(Check.repeat("a=1;", 54) + six + "?", 3, 246);
    Check.bad(Check.repeat("a=1;", 53) + six + "?", 4, 242);
    Check.bad(Check.repeat("a=1;", 53) + six + "a=1;?", 3, 246);
  }
}
