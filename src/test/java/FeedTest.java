/** Promise 4: bytes come behind the tape, the highest first. */
public final class FeedTest {
  public static void main(String[] args) {
    GuardedMoves x = new GuardedMoves();
    Check.due("feed of one", x.feed('b', 1), 1);
    Check.due("feed of three of eight", x.feed(0x78787878783D313BL, 3), 4);
    Check.due("feed of eight", x.feed(0x613D623B213B0A20L, 8), 12);
    Check.due("count(6)", x.count(6), 12);
    Check.due("read()", x.read(), -1 - 9);
    theBytesInOrder();
    highBytes();
    fullTape();
    wrongLengths();
    Check.end();
  }

  private static void theBytesInOrder() {
    GuardedMoves x = new GuardedMoves();
    x.feed(0x613D6233L, 3);
    Check.due("count(6)", x.count(6), 3);
    Check.due("read() of =b3", x.read(), -1);
    GuardedMoves y = new GuardedMoves();
    y.feed(0x21313233343B2020L, 8);
    Check.due("read() of !1234;", y.read(), 1);
    y.tell();
    Check.due("output(0)", y.output(0), 1234);
  }

  private static void highBytes() {
    GuardedMoves x = new GuardedMoves();
    Check.due("feed(-1, 8)", x.feed(-1L, 8), 8);
    Check.due("read()", x.read(), -1);
    GuardedMoves y = new GuardedMoves();
    y.feed(0x2020202020202020L, 8);
    y.feed(0xE1L, 1);
    Check.due("read() of a byte that is a less 128", y.read(), -1 - 8);
  }

  private static void fullTape() {
    GuardedMoves x = new GuardedMoves();
    for (int i = 1; i <= 74; i++) {
      Check.due("feed " + i, x.feed(0x2020202020202020L, 8), 8 * i);
    }
    Check.due("feed of one", x.feed(' ', 1), 593);
    Check.state("feed to 601", () -> x.feed(0L, 8));
    Check.due("count(6)", x.count(6), 593);
    Check.due("feed to 600", x.feed(0x20202020202020L, 7), 600);
    Check.state("feed of one more", () -> x.feed(' ', 1));
    Check.argument("feed of none", () -> x.feed(' ', 0));
    Check.argument("feed of nine", () -> x.feed(' ', 9));
    Check.due("count(6)", x.count(6), 600);
    Check.due("read()", x.read(), 0);
    Check.due("feed after read", x.feed(' ', 1), 1);
  }

  private static void wrongLengths() {
    GuardedMoves x = new GuardedMoves();
    int[] wrong = {0, -1, 9, 600, Integer.MIN_VALUE, Integer.MAX_VALUE};
    for (int n : wrong) {
      Check.argument("feed(0, " + n + ")", () -> x.feed(0L, n));
    }
    Check.due("count(6)", x.count(6), 0);
  }
}
