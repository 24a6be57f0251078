import java.util.ArrayList;
import java.util.Arrays;
import java.util.List;
import java.util.regex.Matcher;
import java.util.regex.Pattern;

/**
 * The document's "1 TEXTS" and "2 CODE" written down once more, as plainly as they stand there and in other ways than
 * in the class: a text without fault becomes a tree, its code a list of rows of six numbers as step() tells them.
 */
final class AsWritten {
  private static final String VALUE = "([a-p]|-?[0-9]+)";
  private static final Pattern[] SORTS = {
    Pattern.compile("([a-p])=" + VALUE + ";"),
    Pattern.compile("([a-p])=" + VALUE + "([-+*/%&|^])" + VALUE + ";"),
    Pattern.compile("([a-p])=@" + VALUE + ";"),
    Pattern.compile("@" + VALUE + "=" + VALUE + ";"),
    Pattern.compile("!" + VALUE + ";"),
    Pattern.compile("\\?" + VALUE + "([=#<])" + VALUE + "\\{")
  };

  /** A statement, with what it names in the order in which that stands there. */
  static final class Told {
    int number;
    int depth;
    int sort;
    final List<String> names = new ArrayList<>();
    final List<Told> first = new ArrayList<>();
    final List<Told> second = new ArrayList<>();
    boolean converted;
  }

  final List<Told> all = new ArrayList<>();
  final List<Told> outermost = new ArrayList<>();
  List<int[]> steps;
  int registers;
  private final String text;
  private int at = 0;

  AsWritten(String text) {
    this.text = text.replaceAll("[ \n]", "");
    take(outermost, 0);
  }

  private void take(List<Told> into, int depth) {
    while (at < text.length() && text.charAt(at) != '}') {
      Told told = new Told();
      told.number = all.size();
      told.depth = depth;
      all.add(told);
      into.add(told);
      name(told);
      if (told.sort == 5) {
        take(told.first, depth + 1);
        at++;
        if (at < text.length() && text.charAt(at) == '{') {
          at++;
          take(told.second, depth + 1);
          at++;
        }
      }
    }
  }

  private void name(Told told) {
    for (int sort = 0; sort < SORTS.length; sort++) {
      Matcher fits = SORTS[sort].matcher(text).region(at, text.length());
      if (fits.lookingAt()) {
        told.sort = sort;
        for (int i = 1; i <= fits.groupCount(); i++) {
          told.names.add(fits.group(i));
        }
        at = fits.end();
        return;
      }
    }
    throw new IllegalStateException("no statement at " + at + " of " + text);
  }

  void lower(int limit) {
    for (Told told : outermost) {
      settle(told, limit);
    }
    begin();
    for (Told told : outermost) {
      asItIs(told);
    }
  }

  private void begin() {
    steps = new ArrayList<>();
    registers = 16;
  }

  /** Whether a ? is CONVERTED hangs on those in it, so these come first. */
  private boolean settle(Told told, int limit) {
    boolean may = told.sort != 4;
    for (List<Told> side : List.of(told.first, told.second)) {
      for (Told inner : side) {
        may &= settle(inner, limit);
      }
    }
    told.converted = false;
    if (may && told.sort == 5) {
      begin();
      converted(told, variables(), -1);
      told.converted = steps.size() <= limit;
    }
    return told.sort == 5 ? told.converted : may;
  }

  private static int[] variables() {
    int[] own = new int[16];
    for (int v = 0; v < 16; v++) {
      own[v] = v;
    }
    return own;
  }

  private int step(Told told, int... code) {
    int[] row = Arrays.copyOf(code, 6);
    row[5] = told.number;
    steps.add(row);
    return row[1];
  }

  private int value(Told told, String name, int[] own) {
    return isNumber(name) ? step(told, 0, registers++, Integer.parseInt(name)) : own[name.charAt(0) - 'a'];
  }

  private static boolean isNumber(String name) {
    return name.charAt(0) < 'a';
  }

  private static int operation(String sign) {
    return 2 + "+-*/%&|^=#<".indexOf(sign);
  }

  private int test(Told told, int[] own) {
    int a = value(told, told.names.get(0), own);
    int b = value(told, told.names.get(2), own);
    return step(told, operation(told.names.get(1)), registers++, a, b);
  }

  private void asItIs(Told told) {
    if (told.converted) {
      converted(told, variables(), -1);
      return;
    }
    List<String> names = told.names;
    int[] own = variables();
    switch (told.sort) {
      case 0:
        int d = names.get(0).charAt(0) - 'a';
        if (isNumber(names.get(1))) {
          step(told, 0, d, Integer.parseInt(names.get(1)));
        } else {
          step(told, 1, d, value(told, names.get(1), own));
        }
        break;
      case 1:
        int a = value(told, names.get(1), own);
        int b = value(told, names.get(3), own);
        step(told, operation(names.get(2)), names.get(0).charAt(0) - 'a', a, b);
        break;
      case 2:
        int i = value(told, names.get(1), own);
        step(told, 14, names.get(0).charAt(0) - 'a', i);
        break;
      case 3:
        int word = value(told, names.get(0), own);
        step(told, 15, word, value(told, names.get(1), own));
        break;
      case 4:
        step(told, 18, value(told, names.get(0), own));
        break;
      default:
        jumping(told, own);
        break;
    }
  }

  private void jumping(Told told, int[] own) {
    step(told, 17, test(told, own), 0);
    int[] jumpNot = steps.get(steps.size() - 1);
    told.first.forEach(this::asItIs);
    if (!told.second.isEmpty()) {
      step(told, 16, 0);
    }
    int[] jump = steps.get(steps.size() - 1);
    jumpNot[2] = steps.size();
    if (!told.second.isEmpty()) {
      told.second.forEach(this::asItIs);
      jump[1] = steps.size();
    }
  }

  /** The registers that stand for the VARIABLES behind it; the outer GUARD is -1 for a ? in no converted side. */
  private int[] converted(Told told, int[] before, int outer) {
    int c = test(told, before);
    int[] one = before.clone();
    int[] other = before.clone();
    if (!told.first.isEmpty()) {
      one = side(told.first, one, outer < 0 ? c : step(told, 7, registers++, outer, c));
    }
    if (!told.second.isEmpty()) {
      int zero = step(told, 0, registers++, 0);
      int not = step(told, 10, registers++, c, zero);
      other = side(told.second, other, outer < 0 ? not : step(told, 7, registers++, outer, not));
    }
    int[] behind = before.clone();
    for (int v = 0; v < 16; v++) {
      if (one[v] != before[v] || other[v] != before[v]) {
        behind[v] = step(told, 13, registers++, c, one[v], other[v]);
      }
    }
    for (int v = 0; v < 16 && outer < 0; v++) {
      if (behind[v] != before[v]) {
        step(told, 1, v, behind[v]);
      }
    }
    return behind;
  }

  private int[] side(List<Told> statements, int[] before, int guard) {
    int[] own = before.clone();
    for (Told told : statements) {
      List<String> names = told.names;
      if (told.sort == 5) {
        own = converted(told, own, guard);
      } else if (told.sort == 3) {
        int index = value(told, names.get(0), own);
        int value = value(told, names.get(1), own);
        index = safe(told, names.get(0), index, guard, 0);
        int was = step(told, 14, registers++, index);
        int chosen = step(told, 13, registers++, guard, value, was);
        step(told, 15, index, chosen);
      } else {
        own[names.get(0).charAt(0) - 'a'] = set(told, own, guard);
      }
    }
    return own;
  }

  private int set(Told told, int[] own, int guard) {
    List<String> names = told.names;
    int a = value(told, names.get(1), own);
    if (told.sort == 0) {
      return a;
    }
    if (told.sort == 2) {
      int index = safe(told, names.get(1), a, guard, 0);
      return step(told, 14, registers++, index);
    }
    int b = value(told, names.get(3), own);
    if ("/%".contains(names.get(2))) {
      b = safe(told, names.get(3), b, guard, 1);
    }
    return step(told, operation(names.get(2)), registers++, a, b);
  }

  /** Harmless is 1 for a divisor, which must not be 0, and 0 for an index, which must be 0 .. 31. */
  private int safe(Told told, String name, int register, int guard, int harmless) {
    if (isNumber(name)) {
      int number = Integer.parseInt(name);
      if (harmless == 1 ? number != 0 : number >= 0 && number <= 31) {
        return register;
      }
    }
    int other = step(told, 0, registers++, harmless);
    return step(told, 13, registers++, guard, register, other);
  }
}
