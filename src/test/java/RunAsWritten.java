import java.util.ArrayList;
import java.util.List;

/** The document's "3 RUNS" written down once more: it does the tree of a text, or rows of steps. */
final class RunAsWritten {
  final int[] registers = new int[16 + 1000];
  final int[] words;
  final List<Integer> output = new ArrayList<>();
  int ended = 0;
  int where = -1;
  int did = 0;

  RunAsWritten(int[] variables, int[] words) {
    System.arraycopy(variables, 0, registers, 0, 16);
    this.words = words.clone();
  }

  void text(List<AsWritten.Told> statements) {
    for (AsWritten.Told told : statements) {
      if (ended != 0) {
        return;
      }
      did++;
      List<String> names = told.names;
      switch (told.sort) {
        case 0: set(told, value(names.get(1))); break;
        case 1: set(told, reached(names.get(2), value(names.get(1)), value(names.get(3)), told.number)); break;
        case 2: set(told, word(value(names.get(1)), told.number)); break;
        case 3: put(value(names.get(0)), value(names.get(1)), told.number); break;
        case 4: output.add(value(names.get(0))); break;
        default:
          int is = reached(names.get(1), value(names.get(0)), value(names.get(2)), told.number);
          text(is == 1 ? told.first : told.second);
          break;
      }
    }
  }

  private int value(String name) {
    return name.charAt(0) < 'a' ? Integer.parseInt(name) : registers[name.charAt(0) - 'a'];
  }

  private void set(AsWritten.Told told, int number) {
    if (ended == 0) {
      registers[told.names.get(0).charAt(0) - 'a'] = number;
    }
  }

  private int word(int i, int statement) {
    if (i < 0 || i > 31) {
      end(2, statement);
      return 0;
    }
    return words[i];
  }

  private void put(int i, int number, int statement) {
    word(i, statement);
    if (ended == 0) {
      words[i] = number;
    }
  }

  private void end(int how, int statement) {
    ended = how;
    where = statement;
  }

  /** In 64 bits nothing is too large, so what is cut to 32 bits behind wraps, the least by -1 too. */
  private int reached(String sign, long a, long b, int statement) {
    switch (sign) {
      case "+": return (int) (a + b);
      case "-": return (int) (a - b);
      case "*": return (int) (a * b);
      case "&": return (int) (a & b);
      case "|": return (int) (a | b);
      case "^": return (int) (a ^ b);
      case "=": return a == b ? 1 : 0;
      case "#": return a != b ? 1 : 0;
      case "<": return a < b ? 1 : 0;
      default: break;
    }
    if (b == 0) {
      end(1, statement);
      return 0;
    }
    long times = Math.abs(a) / Math.abs(b) * ((a < 0) == (b < 0) ? 1 : -1);
    return (int) (sign.equals("/") ? times : a - times * b);
  }

  void code(List<int[]> steps) {
    int i = 0;
    while (ended == 0 && i < steps.size()) {
      did++;
      int[] step = steps.get(i);
      i++;
      if (step[0] == 16) {
        i = step[1];
      } else if (step[0] == 17) {
        i = registers[step[1]] == 0 ? step[2] : i;
      } else {
        one(step);
      }
    }
  }

  private void one(int[] step) {
    int number = 0;
    switch (step[0]) {
      case 0: number = step[2]; break;
      case 1: number = registers[step[2]]; break;
      case 13: number = registers[step[2]] != 0 ? registers[step[3]] : registers[step[4]]; break;
      case 14: number = word(registers[step[2]], step[5]); break;
      case 15: put(registers[step[1]], registers[step[2]], step[5]); return;
      case 18: output.add(registers[step[1]]); return;
      default:
        String sign = "+-*/%&|^=#<".substring(step[0] - 2, step[0] - 1);
        number = reached(sign, registers[step[2]], registers[step[3]], step[5]);
        break;
    }
    if (ended == 0) {
      registers[step[1]] = number;
    }
  }

  /** All that can be asked of a run, as Check.run() shows it of an object. */
  String all() {
    StringBuilder shown = new StringBuilder(", left");
    for (int v = 0; v < 16; v++) {
      shown.append(' ').append(registers[v]);
    }
    shown.append(", kept");
    for (int number : words) {
      shown.append(' ').append(number);
    }
    shown.append(", output");
    for (int number : output) {
      shown.append(' ').append(number);
    }
    return shown + ", ended " + ended + " in " + where + " behind " + did;
  }
}
