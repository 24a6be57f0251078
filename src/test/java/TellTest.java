/** Promise 11, and 12 beside it: what statements do, told and as code alike. */
public final class TellTest {
  private static final int LEAST = Integer.MIN_VALUE;
  private static final int MOST = Integer.MAX_VALUE;

  public static void main(String[] args) {
    operations();
    values();
    memory();
    branches();
    ends();
    beginsAnew();
    Check.end();
  }

  private static void operations() {
    Both.operation("+", 2, 3, 5);
    Both.operation("+", MOST, 1, LEAST);
    Both.operation("-", 2, 3, -1);
    Both.operation("-", LEAST, 1, MOST);
    Both.operation("*", -4, 3, -12);
    Both.operation("*", 65536, 65536, 0);
    Both.operation("/", 7, 2, 3);
    Both.operation("/", -7, 2, -3);
    Both.operation("/", 7, -2, -3);
    Both.operation("/", LEAST, -1, LEAST);
    Both.operation("%", 7, 2, 1);
    Both.operation("%", -7, 2, -1);
    Both.operation("%", 7, -2, 1);
    Both.operation("%", LEAST, -1, 0);
    Both.operation("&", 12, 10, 8);
    Both.operation("|", 12, 10, 14);
    Both.operation("^", 12, 10, 6);
    Both.operation("^", -1, 1, -2);
  }

  private static void values() {
    Both.says("!a;!b;!-3;!2147483647;!- 2147483647;!-0;", 4, LEAST, 4, LEAST, -3, MOST, -MOST, 0);
    Both.says("c=a;a=b;b=c;!a;!b;", 1, 2, 2, 1);
    Both.says("p=a;o=p;!o;", 9, 0, 9);
    Both.says("a=a-1;a=a - -1;a=a--1;!a;", 5, 0, 6);
  }

  private static void memory() {
    Both.says("@0=a;@31=b;c=@0;d=@31;e=@1;!c;!d;!e;", 3, 4, 3, 4, 0);
    Both.says("@a=b;@b=a;c=@a;!c;", 5, 6, 6);
    Both.says("?a<b{@a=7;}{@b=8;}c=@a;d=@b;!c;!d;", 0, 1, 7, 0);
    Both.says("?b<a{@a=7;}{@b=8;}c=@a;d=@b;!c;!d;", 0, 1, 0, 8);
  }

  private static void branches() {
    String three = "?a=b{c=1;}{c=2;}?a#b{d=1;}{d=2;}?a<b{e=1;}{e=2;}!c;!d;!e;";
    Both.says(three, 1, 1, 1, 2, 2);
    Both.says(three, 1, 2, 2, 1, 1);
    Both.says(three, 2, 1, 2, 1, 2);
    Both.says("?a<b{!1;}!2;", LEAST, MOST, 1, 2);
    Both.says("?a<b{!1;}!2;", MOST, LEAST, 2);
    Both.says("?a<b{!1;}{!2;?a=b{}{!3;}}", 2, 1, 2, 3);
    String deep = "?a<4{?a<2{?a=0{c=10;}{c=11;}}{?a=2{c=12;}{c=13;}}d=c;}{c=14;}!c;!d;";
    for (int a = 0; a < 6; a++) {
      Both.says(deep, a, 0, 10 + Math.min(a, 4), a < 4 ? 10 + a : 0);
    }
    Both.says("?a<b{a=b;b=a;c=a;}!a;!b;!c;", 1, 2, 2, 2, 2);
    Both.says("?a<b{c=@a;}{d=a/b;}!c;!d;", 40, 2, 0, 20);
    Both.says("?b#0{d=a/b;}{d=-1;}!d;", 40, 0, -1);
  }

  private static void ends() {
    Both.ends("!1;c=a/b;!2;", 5, 0, 1, 1, 1);
    Both.ends("!1;c=a%b;!2;", LEAST, 0, 1, 1, 1);
    Both.ends("!1;!3;c=@a;!2;", -1, 0, 2, 2, 2);
    Both.ends("c=@a;", 32, 0, 2, 0, 0);
    Both.ends("c=@a;", LEAST, 0, 2, 0, 0);
    Both.ends("@a=b;", 32, 0, 2, 0, 0);
    Both.ends("@a=b;", -1, 0, 2, 0, 0);
    Both.ends("?a#b{?a=b{}{c=a/b;}}", 1, 0, 1, 2, 0);
    Both.ends("?a=b{c=a/b;}{@-1=b;}", 0, 0, 1, 1, 0);
    Both.ends("?a=b{c=a/b;}{@-1=b;}", 0, 1, 2, 2, 0);
    Both.ends("?a=b{c=a/0;}{c=@32;}", 1, 1, 1, 1, 0);
    Both.ends("?a=b{c=a/0;}{c=@32;}", 0, 1, 2, 2, 0);
    Both.ends("?a=b{?a=b{c=a%0;}d=1/0;}", 1, 1, 1, 2, 0);
  }

  private static void beginsAnew() {
    GuardedMoves x = Check.of("!a;b=b+1;@0=b;c=1/a;");
    Check.due("tell()", x.tell(), 1);
    Check.due("count(7)", x.count(7), 3);
    x.variable(0, 1);
    Check.due("tell()", x.tell(), 0);
    Check.due("count(5)", x.count(5), 1);
    Check.due("count(7)", x.count(7), -1);
    Check.due("left(1)", x.left(1), 1);
    Check.due("kept(0)", x.kept(0), 1);
  }
}
