import java.util.ArrayList;
import java.util.List;

/** Many made-up texts: told and run they must agree, and their code must be built and trimmed as the document says. */
public final class AgreementTest {
  private static final int[] LIMITS = {0, 3, 6, 9, 14, 20, 40, 100, 400};

  private final MadeUp madeUp = new MadeUp(20261115L);

  public static void main(String[] args) {
    AgreementTest test = new AgreementTest();
    for (int i = 0; i < 3000; i++) {
      test.tryText(test.madeUp.text());
    }
    test.largestCode();
    Check.end();
  }

  private void tryText(String text) {
    GuardedMoves x = Check.fed(text);
    Check.due("read() of " + text, x.read(), madeUp.statements);
    for (int limit : LIMITS) {
      x.lower(limit);
      wellMade(text, x);
      rightlyConverted(text, x, limit);
      agrees(text, x);
      trimmedAsTold(text, x);
      agrees(text, x);
    }
  }

  private void agrees(String text, GuardedMoves x) {
    for (int i = 0; i < 3; i++) {
      madeUp.put(x);
      int ended = x.tell();
      String told = leftBy(x, ended == 0 || x.count(4) == 0);
      Check.due("run() of " + text, x.run(), ended);
      Check.due("what a run left of " + text, leftBy(x, ended == 0 || x.count(4) == 0), told);
    }
  }

  private static String leftBy(GuardedMoves x, boolean withVariables) {
    StringBuilder all = new StringBuilder().append(x.count(7));
    for (int v = 0; withVariables && v < 16; v++) {
      all.append(' ').append(x.left(v));
    }
    for (int w = 0; w < 32; w++) {
      all.append(' ').append(x.kept(w));
    }
    for (int i = 0; i < x.count(5); i++) {
      all.append(' ').append(x.output(i));
    }
    return all.toString();
  }

  private void wellMade(String text, GuardedMoves x) {
    int registers = 16;
    int jumps = 0;
    int ofStatements = 0;
    for (int i = 0; i < x.count(1); i++) {
      int code = x.step(i, 0);
      if (code < 15 && x.step(i, 1) >= 16) {
        Check.due("register of step " + i + " of " + text, x.step(i, 1), registers);
        registers++;
      }
      if (code == 16 || code == 17) {
        jumps++;
        int to = x.step(i, code - 15);
        Check.due("jump " + i + " onward in " + text, to > i && to <= x.count(1), true);
      }
    }
    for (int s = 0; s < x.count(0); s++) {
      ofStatements += x.statement(s, 3);
    }
    Check.due("count(2) of " + text, x.count(2), registers);
    Check.due("count(3) of " + text, x.count(3), jumps);
    Check.due("steps of all statements of " + text, ofStatements, x.count(1));
  }

  private void rightlyConverted(String text, GuardedMoves x, int limit) {
    int found = 0;
    int next = 0;
    for (int s = 0; s < x.count(0); s++) {
      if (x.statement(s, 0) == 5) {
        GuardedMoves alone = Check.of(madeUp.branches.get(next));
        int steps = alone.lower(limit);
        boolean all = alone.count(3) == 0 && madeUp.branches.get(next).indexOf('!') < 0 && steps <= limit;
        Check.due("statement(" + s + ", 2) of " + text + " with " + limit, x.statement(s, 2), all ? 1 : 0);
        found += all ? 1 : 0;
        next++;
      } else {
        Check.due("statement(" + s + ", 2) of " + text, x.statement(s, 2), 0);
      }
    }
    Check.due("count(4) of " + text, x.count(4), found);
  }

  private void trimmedAsTold(String text, GuardedMoves x) {
    List<int[]> steps = new ArrayList<>();
    for (int i = 0; i < x.count(1); i++) {
      int[] step = new int[6];
      for (int what = 0; what < 6; what++) {
        step[what] = x.step(i, what);
      }
      steps.add(step);
    }
    int went = 0;
    for (int useless = useless(steps); useless >= 0; useless = useless(steps)) {
      remove(steps, useless);
      went++;
    }
    Check.due("trim() of " + text, x.trim(), went);
    for (int i = 0; i < steps.size(); i++) {
      for (int what = 0; what < 6; what++) {
        Check.due("trimmed step(" + i + ", " + what + ") of " + text, x.step(i, what), steps.get(i)[what]);
      }
    }
  }

  private static int useless(List<int[]> steps) {
    for (int i = 0; i < steps.size(); i++) {
      int[] step = steps.get(i);
      boolean may = step[0] <= 13 && step[0] != 5 && step[0] != 6 && step[1] >= 16;
      if (may && steps.stream().noneMatch(other -> takes(other, step[1]))) {
        return i;
      }
    }
    return -1;
  }

  private static boolean takes(int[] step, int register) {
    switch (step[0]) {
      case 0: case 16:
        return false;
      case 1: case 14:
        return step[2] == register;
      case 13:
        return step[2] == register || step[3] == register || step[4] == register;
      case 15:
        return step[1] == register || step[2] == register;
      case 17: case 18:
        return step[1] == register;
      default:
        return step[2] == register || step[3] == register;
    }
  }

  private static void remove(List<int[]> steps, int at) {
    steps.remove(at);
    for (int[] step : steps) {
      int row = step[0] == 16 ? 1 : 2;
      if ((step[0] == 16 || step[0] == 17) && step[row] > at) {
        step[row]--;
      }
    }
  }

  /** No code is longer than that of a text of chains of six branches round all that is dear. */
  private void largestCode() {
    StringBuilder text = new StringBuilder();
    for (int chain = 0; chain < 3; chain++) {
      text.append(Check.repeat("?1=1{", 6));
      for (int v = 0; v < (chain < 2 ? 16 : 10); v++) {
        text.append((char) ('a' + v)).append("=1/0;");
      }
      text.append(Check.repeat("}", 6));
    }
    GuardedMoves x = Check.of(text.toString());
    Check.due("steps of the largest", x.lower(400), 3 * (6 * 3 + 5) + 42 * 12);
    Check.due("count(4) of the largest", x.count(4), 18);
    wellMade(text.toString(), x);
    agrees(text.toString(), x);
    trimmedAsTold(text.toString(), x);
    agrees(text.toString(), x);
  }
}
