/** What all tests of the project share: they tell a text, compare answers, and end with 1 if one was wrong. */
final class Due {
  private static int wrong = 0;
  private static int asked = 0;

  private Due() { }

  static void is(String call, long got, long want) {
    asked++;
    if (got != want) {
      wrong++;
      if (wrong <= 50) System.out.println(call + " answered " + got + ", due is " + want);
    }
  }

  static void holds(String rule, boolean kept) {
    is(rule, kept ? 1 : 0, 1);
  }

  /** Types a text, whose signs are bytes, eight at a time. */
  static void type(SeesawPark x, String text) {
    for (int from = 0; from < text.length(); from += 8) {
      int n = Math.min(8, text.length() - from);
      long v = 0;
      for (int i = 0; i < n; i++) v = v << 8 | text.charAt(from + i) & 255;
      x.type(v, n);
    }
  }

  static SeesawPark parkOf(String text) {
    SeesawPark x = new SeesawPark();
    type(x, text);
    long items = text.chars().filter(b -> b == ';').count();
    is("park() of " + text, x.park(), items);
    return x;
  }

  static void end() {
    System.out.println(wrong == 0 ? asked + " answers are as due" : wrong + " of " + asked + " answers are not as due");
    if (wrong != 0) System.exit(1);
  }
}
