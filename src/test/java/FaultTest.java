/** Promises 8 and 9: where a text's fault lies, told a second time byte by byte, over many texts, most of them hurt. */
public final class FaultTest {
  private static final int TEXTS = 12000, LAWS = 4;
  private static final String LETTERS = "tuwksbmh0123456789!-(()|&<=>+*/%;? xT~";
  private static int z = 5;

  public static void main(String[] args) {
    OneBlanket x = new OneBlanket();
    int laws = 0;
    for (int k = 0; k < TEXTS; k++) {
      String text = k % 3 == 0 ? noise() : hurt(made());
      int fault = new Reader(text).fault();
      boolean asLaw = k % 2 == 0;
      if (laws == LAWS || k % 2 == 0) {
        x = new OneBlanket();
        laws = 0;
      }
      int due = fault >= 0 ? -100 - fault : asLaw ? laws : 1;
      Due.is((asLaw ? "law " : "room ") + text, asLaw ? Due.law(x, text) : Due.room(x, text), due);
      laws += asLaw && fault < 0 ? 1 : 0;
      Due.is("laws behind " + text, x.count(3), laws);
      Due.is("tape behind " + text, x.count(4), 0);
    }
    Due.end();
  }

  private static int upTo(int n) {
    z = z * 1664525 + 1013904223;
    return (z >>> 9) % n;
  }

  private static String noise() {
    StringBuilder made = new StringBuilder();
    int length = upTo(12);
    for (int i = 0; i < length; i++) {
      made.append(LETTERS.charAt(upTo(LETTERS.length())));
    }
    return made.toString();
  }

  /** One that is often faultless. */
  private static String made() {
    StringBuilder made = new StringBuilder();
    int parts = 1 + upTo(25);
    int open = 0;
    for (int i = 0; i < parts && made.length() < 90; i++) {
      while (upTo(4) == 0) {
        char ahead = "!-(".charAt(upTo(3));
        open += ahead == '(' ? 1 : 0;
        made.append(ahead);
      }
      made.append(upTo(3) == 0 ? "" + upTo(10000) : "" + LETTERS.charAt(upTo(8)));
      while (open > 0 && upTo(2) == 0) {
        made.append(')');
        open--;
      }
      String signs = open > 0 ? "+-*/%|&|&<=>" : "+-*/%|&|&<=>;;?";
      made.append(i + 1 < parts ? "" + signs.charAt(upTo(signs.length())) : "");
    }
    return made + ")".repeat(open);
  }

  private static String hurt(String text) {
    int at = upTo(text.length() + 1);
    char letter = LETTERS.charAt(upTo(LETTERS.length()));
    switch (upTo(4)) {
      case 0:
        return text.substring(0, at) + letter + text.substring(at);
      case 1:
        return text.substring(0, at);
      case 2:
        return text.substring(0, at) + text.substring(Math.min(text.length(), at + 1));
      default:
        return text;
    }
  }

  /** Goes byte by byte and holds only what decides which bytes may come next. */
  private static final class Reader {
    private final String text;
    /** For each ( that is open, and at 0 for the line: whether two have been compared since the last | or &. */
    private final boolean[] compared = new boolean[8];
    /** How many ! and - stood ahead of each. */
    private final int[] ahead = new int[8];
    private int brackets = 0;
    private int signs = 0;
    private int digits = 0;
    private boolean asked = false;
    private boolean behindOperand = false;

    Reader(String itsText) {
      text = itsText;
    }

    int fault() {
      for (int i = 0; i < text.length(); i++) {
        boolean goesOn = behindOperand ? behind(text.charAt(i)) : ahead(text.charAt(i));
        if (!goesOn) {
          return i;
        }
      }
      return behindOperand && brackets == 0 ? -1 : text.length();
    }

    private int open() {
      int sum = brackets + signs;
      for (int i = 1; i <= brackets; i++) {
        sum += ahead[i];
      }
      return sum;
    }

    private boolean ahead(char c) {
      if ("tuwksbmh0123456789".indexOf(c) >= 0) {
        digits = c <= '9' ? 1 : 0;
        signs = 0;
        behindOperand = true;
        return true;
      }
      if ("!-(".indexOf(c) < 0 || open() == 6) {
        return false;
      }
      if (c == '(') {
        brackets++;
        ahead[brackets] = signs;
        compared[brackets] = false;
        signs = 0;
      } else {
        signs++;
      }
      return true;
    }

    private boolean behind(char c) {
      if (c >= '0' && c <= '9') {
        digits++;
        return digits > 1 && digits <= 4;
      }
      digits = 0;
      if (c == ')') {
        brackets--;
        return brackets >= 0;
      }
      behindOperand = false;
      switch (c) {
        case '<':
        case '=':
        case '>':
          boolean first = !compared[brackets];
          compared[brackets] = true;
          return first;
        case '|':
        case '&':
          compared[brackets] = false;
          return true;
        case '?':
        case ';':
          boolean may = brackets == 0 && (c == ';' || !asked);
          asked = c == '?';
          compared[0] = false;
          return may;
        default:
          return "+-*/%".indexOf(c) >= 0;
      }
    }
  }
}
