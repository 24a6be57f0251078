/** Promise 11, and 12 beside it: what statements do, told and as code alike. */
public final class TellTest {
  private static final int LEAST = Integer.MIN_VALUE;
  private static final int MOST = Integer.MAX_VALUE;

  public static void main(String[] args) {
    operations();
    values();
    memory();
    branches();
    ends();
    beginsAnew();
    Check.end();
  }

  /** The OUTPUT of a text told, lowered with jumps, converted and trimmed, which must all be the same. */
  private static void says(String text, int a, int b, Integer... want) {
    GuardedMoves x = Check.of(text);
    x.variable(0, a);
    x.variable(1, b);
    String call = text + " with " + a + " and " + b;
    Check.due("tell() of " + call, x.tell(), 0);
    output("told " + call, x, want);
    for (int limit = 0; limit <= 400; limit += 100) {
      x.lower(limit);
      Check.due("run() of " + call, x.run(), 0);
      output("run " + call, x, want);
      x.trim();
      Check.due("trimmed run() of " + call, x.run(), 0);
      output("trimmed " + call, x, want);
    }
  }

  private static void output(String call, GuardedMoves x, Integer[] want) {
    Check.due("count(5) " + call, x.count(5), want.length);
    for (int i = 0; i < Math.min(want.length, x.count(5)); i++) {
      Check.due("output(" + i + ") " + call, x.output(i), want[i]);
    }
    Check.due("count(7) " + call, x.count(7), -1);
  }

  private static void operation(String op, int a, int b, int want) {
    says("c=a" + op + "b;!c;", a, b, want);
    says("?a=a{c=a" + op + "b;}!c;", a, b, want);
    says("?a#a{}{c=a" + op + "b;}!c;", a, b, want);
  }

  private static void operations() {
    operation("+", 2, 3, 5);
    operation("+", MOST, 1, LEAST);
    operation("-", 2, 3, -1);
    operation("-", LEAST, 1, MOST);
    operation("*", -4, 3, -12);
    operation("*", 65536, 65536, 0);
    operation("/", 7, 2, 3);
    operation("/", -7, 2, -3);
    operation("/", 7, -2, -3);
    operation("/", LEAST, -1, LEAST);
    operation("%", 7, 2, 1);
    operation("%", -7, 2, -1);
    operation("%", 7, -2, 1);
    operation("%", LEAST, -1, 0);
    operation("&", 12, 10, 8);
    operation("|", 12, 10, 14);
    operation("^", 12, 10, 6);
    operation("^", -1, 1, -2);
  }

  private static void values() {
    says("!a;!b;!-3;!2147483647;!- 2147483647;!-0;", 4, LEAST, 4, LEAST, -3, MOST, -MOST, 0);
    says("c=a;a=b;b=c;!a;!b;", 1, 2, 2, 1);
    says("p=a;o=p;!o;", 9, 0, 9);
    says("a=a-1;a=a - -1;a=a--1;!a;", 5, 0, 6);
  }

  private static void memory() {
    says("@0=a;@31=b;c=@0;d=@31;e=@1;!c;!d;!e;", 3, 4, 3, 4, 0);
    says("@a=b;@b=a;c=@a;!c;", 5, 6, 6);
    says("?a<b{@a=7;}{@b=8;}c=@a;d=@b;!c;!d;", 0, 1, 7, 0);
    says("?b<a{@a=7;}{@b=8;}c=@a;d=@b;!c;!d;", 0, 1, 0, 8);
  }

  private static void branches() {
    String three = "?a=b{c=1;}{c=2;}?a#b{d=1;}{d=2;}?a<b{e=1;}{e=2;}!c;!d;!e;";
    says(three, 1, 1, 1, 2, 2);
    says(three, 1, 2, 2, 1, 1);
    says(three, 2, 1, 2, 1, 2);
    says("?a<b{!1;}!2;", LEAST, MOST, 1, 2);
    says("?a<b{!1;}!2;", MOST, LEAST, 2);
    says("?a<b{!1;}{!2;?a=b{}{!3;}}", 2, 1, 2, 3);
    String deep = "?a<4{?a<2{?a=0{c=10;}{c=11;}}{?a=2{c=12;}{c=13;}}d=c;}{c=14;}!c;!d;";
    for (int a = 0; a < 6; a++) {
      says(deep, a, 0, 10 + Math.min(a, 4), a < 4 ? 10 + a : 0);
    }
    says("?a<b{a=b;b=a;c=a;}!a;!b;!c;", 1, 2, 2, 2, 2);
    says("?a<b{c=@a;}{d=a/b;}!c;!d;", 40, 2, 0, 20);
    says("?b#0{d=a/b;}{d=-1;}!d;", 40, 0, -1);
  }

  private static void ends() {
    ended("!1;c=a/b;!2;", 5, 0, 1, 1, 1);
    ended("!1;c=a%b;!2;", LEAST, 0, 1, 1, 1);
    ended("!1;!3;c=@a;!2;", -1, 0, 2, 2, 2);
    ended("c=@a;", 32, 0, 2, 0, 0);
    ended("c=@a;", LEAST, 0, 2, 0, 0);
    ended("@a=b;", 32, 0, 2, 0, 0);
    ended("@a=b;", -1, 0, 2, 0, 0);
    ended("?a#b{?a=b{}{c=a/b;}}", 1, 0, 1, 2, 0);
    ended("?a=b{c=a/b;}{@-1=b;}", 0, 0, 1, 1, 0);
    ended("?a=b{c=a/b;}{@-1=b;}", 0, 1, 2, 2, 0);
    ended("?a=b{c=a/0;}{c=@32;}", 1, 1, 1, 1, 0);
    ended("?a=b{c=a/0;}{c=@32;}", 0, 1, 2, 2, 0);
    ended("?a=b{?a=b{c=a%0;}d=1/0;}", 1, 1, 1, 2, 0);
  }

  private static void ended(String text, int a, int b, int how, int where, int outputs) {
    GuardedMoves x = Check.of(text);
    x.variable(0, a);
    x.variable(1, b);
    Check.due("tell() of " + text, x.tell(), how);
    where(text, x, where, outputs);
    for (int limit = 0; limit <= 400; limit += 400) {
      x.lower(limit);
      Check.due("run() of " + text, x.run(), how);
      where(text, x, where, outputs);
      x.trim();
      Check.due("trimmed run() of " + text, x.run(), how);
      where(text, x, where, outputs);
    }
  }

  private static void where(String text, GuardedMoves x, int where, int outputs) {
    Check.due("count(7) of " + text, x.count(7), where);
    Check.due("count(5) of " + text, x.count(5), outputs);
  }

  private static void beginsAnew() {
    GuardedMoves x = Check.of("!a;b=b+1;@0=b;c=1/a;");
    Check.due("tell()", x.tell(), 1);
    Check.due("count(7)", x.count(7), 3);
    x.variable(0, 1);
    Check.due("tell()", x.tell(), 0);
    Check.due("count(5)", x.count(5), 1);
    Check.due("count(7)", x.count(7), -1);
    Check.due("left(1)", x.left(1), 1);
    Check.due("kept(0)", x.kept(0), 1);
  }
}
