import java.util.ArrayList;
import java.util.List;
import java.util.Random;

/** Makes up texts, the same ones for the same seed. */
final class MadeUp {
  private static final int[] EDGES = {0, 0, 1, -1, 2, 31, 32, Integer.MIN_VALUE, Integer.MAX_VALUE};

  final Random random;
  /** Each ? of the latest text, in order, as it stands there. */
  final List<String> branches = new ArrayList<>();
  /** How many statements the latest text has. */
  int statements;

  MadeUp(long seed) {
    random = new Random(seed);
  }

  String text() {
    String made;
    do {
      statements = 0;
      branches.clear();
      made = statements(0, 1 + random.nextInt(60));
    } while (made.length() > 600);
    return made;
  }

  int number() {
    return random.nextBoolean() ? EDGES[random.nextInt(EDGES.length)] : random.nextInt(32);
  }

  /** Puts all VARIABLES and words to made-up numbers. */
  void put(GuardedMoves x) {
    for (int v = 0; v < 16; v++) {
      x.variable(v, number());
    }
    for (int w = 0; w < 32; w++) {
      x.word(w, number());
    }
  }

  private String statements(int depth, int most) {
    StringBuilder all = new StringBuilder();
    int many = 1 + random.nextInt(6);
    for (int i = 0; i < many && statements < most; i++) {
      all.append(random.nextInt(3) == 0 && depth < 6 ? branch(depth, most) : simple(depth));
    }
    return all.toString();
  }

  private String branch(int depth, int most) {
    statements++;
    int at = branches.size();
    branches.add("");
    String made = "?" + value() + "=#<".charAt(random.nextInt(3)) + value() + "{" + side(depth, most) + "}";
    made += random.nextInt(3) == 0 ? "" : "{" + side(depth, most) + "}";
    branches.set(at, made);
    return made;
  }

  private String side(int depth, int most) {
    return random.nextInt(6) == 0 ? "" : statements(depth + 1, most);
  }

  private String simple(int depth) {
    statements++;
    String target = variable() + "=";
    switch (random.nextInt(depth == 0 ? 7 : 14)) {
      case 0:
        return "!" + value() + ";";
      case 1: case 7:
        return target + "@" + value() + ";";
      case 2: case 8:
        return "@" + value() + "=" + value() + ";";
      case 3: case 9:
        return target + value() + ";";
      default:
        return target + value() + "+-*/%&|^".charAt(random.nextInt(8)) + value() + ";";
    }
  }

  private String variable() {
    return String.valueOf((char) ('a' + random.nextInt(random.nextBoolean() ? 4 : 16)));
  }

  private String value() {
    switch (random.nextInt(6)) {
      case 0:
        return String.valueOf(random.nextInt(40));
      case 1:
        return random.nextInt(4) == 0 ? "-" + random.nextInt(3) : String.valueOf(random.nextInt(3));
      default:
        return variable();
    }
  }
}
