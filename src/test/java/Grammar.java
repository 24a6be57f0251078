import java.math.BigInteger;

/**
 * The grammar of "1 TEXTS" as a row of what is still wanted, so that the FAULT of a text is found in another way than
 * the class finds it. Beside bytes that must stand there as they are, wanted are: S statements, V a VALUE, R a REL,
 * W what follows VARIABLE =, O an OP and a VALUE or nothing, B the second braces or nothing, N a NUMBER.
 */
final class Grammar {
  private static final String VARIABLES = "abcdefghijklmnop";
  private static final String FIGURES = "0123456789";
  private static final char END = 0xFFFF;

  private final String text;
  private String wanted = "S";
  private int at = 0;
  private int statements = 0;
  int fault = 0;
  int place = 0;

  Grammar(String text) {
    this.text = text;
    while (fault == 0 && !(wanted.isEmpty() && next() == END)) {
      takeOne();
    }
  }

  /** The next byte that is no blank and no line end. */
  private char next() {
    while (at < text.length() && " \n".indexOf(text.charAt(at)) >= 0) {
      at++;
    }
    return at < text.length() ? text.charAt(at) : END;
  }

  private void takeOne() {
    char next = next();
    char want = wanted.isEmpty() ? 'E' : wanted.charAt(0);
    String behind = wanted.isEmpty() ? "" : wanted.substring(1);
    switch (want) {
      case 'S': statement(next, behind); break;
      case 'V': value(next, behind); break;
      case 'W': wanted = next == '@' ? "@V" + behind : "VO" + behind; break;
      case 'O': wanted = among("+-*/%&|^", next) ? next + "V" + behind : behind; break;
      case 'B': wanted = next == '{' ? "{S}" + behind : behind; break;
      case 'R': take(among("=#<", next), behind); break;
      case 'N': number(behind); break;
      case 'E': refuse(1); break;
      default: take(next == want, behind); break;
    }
  }

  private static boolean among(String bytes, char next) {
    return bytes.indexOf(next) >= 0;
  }

  private void take(boolean fits, String behind) {
    if (fits) {
      at++;
      wanted = behind;
    } else {
      refuse(1);
    }
  }

  private void refuse(int which) {
    fault = which;
    place = at;
  }

  private void statement(char next, String behind) {
    if (!among(VARIABLES + "@!?", next)) {
      wanted = behind;
      return;
    }
    statements++;
    // each ? round this one still wants the end of these statements
    long round = behind.chars().filter(c -> c == '}').count();
    if (statements > 60) {
      refuse(3);
    } else if (next == '?' && round >= 6) {
      refuse(4);
    } else if (next == '?') {
      take(true, "VRV{S}B" + wanted);
    } else if (next == '!') {
      take(true, "V;" + wanted);
    } else {
      take(true, (next == '@' ? "V=V;" : "=W;") + wanted);
    }
  }

  private void value(char next, String behind) {
    if (next == '-') {
      take(true, "N" + behind);
    } else if (among(FIGURES, next)) {
      wanted = "N" + behind;
    } else {
      take(among(VARIABLES, next), behind);
    }
  }

  private void number(String behind) {
    int end = at;
    while (end < text.length() && among(FIGURES, text.charAt(end))) {
      end++;
    }
    if (end == at) {
      refuse(1);
    } else if (new BigInteger(text.substring(at, end)).bitLength() > 31) {
      refuse(2);
    } else {
      at = end;
      wanted = behind;
    }
  }
}
