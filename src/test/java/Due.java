/** Counts the answers that are not due; a test ends with exit code 1 if there was one. */
final class Due {
  private static int asked = 0;
  private static int wrong = 0;

  private Due() {}

  static void is(String call, long got, long want) {
    asked++;
    if (got != want) {
      wrong++;
      System.out.println(call + " answered " + got + ", due is " + want);
    }
  }

  static void feed(OneBlanket x, String text) {
    for (int i = 0; i < text.length(); i++) {
      x.feed(text.charAt(i));
    }
  }

  static int law(OneBlanket x, String text) {
    feed(x, text);
    return x.law();
  }

  static int room(OneBlanket x, String text) {
    feed(x, text);
    return x.room();
  }

  static void end() {
    System.out.println(asked + " answers, " + wrong + " not as due");
    if (wrong != 0 || asked == 0) {
      System.exit(1);
    }
  }
}
