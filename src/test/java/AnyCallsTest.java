import java.util.Random;

/** Any calls in any order: no call throws what the document does not name for it. */
public final class AnyCallsTest {
  private static final String SIGNS = "abcdefp =@!?{}{};;;+-*/%&|^#<0123459\nqx";
  // Whole statements, so that texts come to be read; what is cut off comes by single signs.
  private static final String[] PARTS = {
    "a=b;", "c=1/a;", "d=@c;", "@d=2;", "!e;", "a=b%0;", "e=@40;", " ", "?a<b{c=1/d;}{@e=f;}", "?0=0{}{!1;}",
    "?a#1{?b<2{b=@a;}{?c=d{a=b/c;d=1;}}}", "?a=0{?a=0{?a=0{?a=0{?a=0{?a=0{@1=2;}}}}}}"
  };
  private static final int[] NUMBERS = {
    0, 1, 2, 3, 4, 5, 6, 7, 8, 9, 15, 16, 31, 32, 59, 60, 400, 401, -1, Integer.MIN_VALUE, Integer.MAX_VALUE
  };

  private final Random random = new Random(4711L);

  public static void main(String[] args) {
    AnyCallsTest test = new AnyCallsTest();
    for (int i = 0; i < 3000; i++) {
      test.useAnObject();
    }
    Check.end();
  }

  private int number() {
    return random.nextInt(4) == 0 ? random.nextInt(800) : NUMBERS[random.nextInt(NUMBERS.length)];
  }

  private void useAnObject() {
    GuardedMoves x = new GuardedMoves();
    boolean soup = random.nextInt(4) == 0;
    for (int i = 0; i < 512; i++) {
      call(x, random.nextInt(22), soup);
    }
  }

  private void call(GuardedMoves x, int which, boolean soup) {
    Class<?> thrown = null;
    try {
      make(x, which, soup);
    } catch (RuntimeException e) {
      thrown = e.getClass();
    }
    boolean fine = thrown == null || allowed(which, thrown);
    Check.due("call " + which + " throws " + thrown, fine, true);
  }

  private static boolean allowed(int which, Class<?> thrown) {
    boolean index = thrown == IndexOutOfBoundsException.class;
    boolean argument = thrown == IllegalArgumentException.class;
    boolean state = thrown == IllegalStateException.class;
    switch (which) {
      case 0: case 1: case 10: case 11: case 12:
        return index;
      case 2:
        return argument || state;
      case 5: case 8:
        return index || argument;
      case 6: case 13:
        return argument;
      case 9:
        return state;
      case 3: case 4: case 7: case 14:
        return false;
      default:
        return state;
    }
  }

  private void make(GuardedMoves x, int which, boolean soup) {
    switch (which) {
      case 0: x.variable(number(), number()); break;
      case 1: x.word(number(), number()); break;
      case 2: x.feed(soup ? random.nextLong() : 0x2020202020202020L, number()); break;
      case 3: x.read(); break;
      case 4: x.fault(); break;
      case 5: x.statement(number(), number()); break;
      case 6: x.lower(number()); break;
      case 7: x.trim(); break;
      case 8: x.step(number(), number()); break;
      case 9: x.run(); break;
      case 10: x.left(number()); break;
      case 11: x.kept(number()); break;
      case 12: x.output(number()); break;
      case 13: x.count(number()); break;
      case 14: x.tell(); break;
      default: feedPart(x, soup); break;
    }
  }

  private void feedPart(GuardedMoves x, boolean soup) {
    if (soup && random.nextInt(3) == 0) {
      x.feed(SIGNS.charAt(random.nextInt(SIGNS.length())), 1);
    } else {
      Check.feed(x, PARTS[random.nextInt(PARTS.length)]);
    }
  }
}
