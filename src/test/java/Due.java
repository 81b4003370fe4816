/** What all tests of the project share: they tell a text, compare answers, and end with 1 if one was wrong. */
final class Due {
  static final int LEAST = Integer.MIN_VALUE, GREATEST = Integer.MAX_VALUE;

  private static int wrong = 0;
  private static int asked = 0;

  private Due() { }

  /** Calls that bring a new object to where a test begins. */
  interface History { void on(SeesawPark x); }

  /** One call, and its answer. */
  interface Ask { long of(SeesawPark x); }

  /** One call with one of its numbers left open, and its answer. */
  interface AskWith { long of(SeesawPark x, int number); }

  static void is(String call, long got, long want) {
    asked++;
    if (got != want) {
      wrong++;
      if (wrong <= 50) System.out.println(call + " answered " + got + ", due is " + want);
    }
  }

  static void holds(String rule, boolean kept) {
    is(rule, kept ? 1 : 0, 1);
  }

  /** Types a text, whose signs are bytes, eight at a time. */
  static void type(SeesawPark x, String text) {
    for (int from = 0; from < text.length(); from += 8) {
      int n = Math.min(8, text.length() - from);
      long v = 0;
      for (int i = 0; i < n; i++) v = v << 8 | text.charAt(from + i) & 255;
      x.type(v, n);
    }
  }

  static SeesawPark parkOf(String text) {
    SeesawPark x = new SeesawPark();
    type(x, text);
    long items = text.chars().filter(b -> b == ';').count();
    is("park() of " + text, x.park(), items);
    return x;
  }

  /** The history of a park that a text told. */
  static History told(String text) {
    return x -> {
      type(x, text);
      x.park();
    };
  }

  /** 2 planks, 4 children who all sit, 2 stones laid, both images kept, 3 strangers, 2 trials, and a text of 28 bytes. */
  static void busy(SeesawPark x) {
    told("plank 3 2;plank 1 0;child 10 2;child 20 3;child 1 4;child 5 30;stone 4;stone 20;").on(x);
    x.sits(0, 0, -2);
    x.lay(1, 1, 1);
    x.keep(0);
    x.sits(1, 0, 1);
    x.sits(2, 0, 3);
    x.lay(0, 0, -3);
    x.keep(1);
    x.sits(3, 1, -1);
    x.strangers(3);
    x.trial(0, 1, -1);
    x.trial(2, 1, 0);
    x.rate(3, 1);
    type(x, "child 9 8;plank 2 1;stone 3;");
  }

  /** A call whose answer is due, and that changes nothing: a twin that was not asked can't be told from the one that was. */
  static void changesNothing(String sentence, History history, long due, Ask call) {
    SeesawPark asked = new SeesawPark(), twin = new SeesawPark();
    history.on(asked);
    history.on(twin);
    is(sentence, call.of(asked), due);
    String got = autopsy(asked), want = autopsy(twin);
    holds(sentence + ": nothing changes; seen is " + got + ", due is " + want, got.equals(want));
  }

  /** The numbers from the first to the last are taken; those beside these, and the farthest, are refused and change nothing. */
  static void range(String sentence, History history, int first, int last, long refusal, AskWith call) {
    for (int number = first; number <= last; number++) {
      SeesawPark x = new SeesawPark();
      history.on(x);
      holds(sentence + ": " + number + " is taken", call.of(x, number) != refusal);
    }
    for (int number : new int[] {first - 1, last + 1, LEAST, GREATEST, first - 256, last + 256}) {
      changesNothing(sentence + ": " + number + " is refused", history, refusal, x -> call.of(x, number));
    }
  }

  /** All that can be asked of a park; at last its images come back and its text is read, so that the park is spent. */
  private static String autopsy(SeesawPark x) {
    StringBuilder b = new StringBuilder();
    lookAtAll(x, b);
    for (int image = 0; image < 2; image++) {
      b.append(" image ").append(x.back(image)).append(':');
      lookAtPlaces(x, b);
    }
    b.append(" text ").append(x.park()).append(':');
    lookAtAll(x, b);
    return b.toString();
  }

  private static void lookAtAll(SeesawPark x, StringBuilder b) {
    for (int what = 0; what < 7; what++) b.append(' ').append(x.count(what));
    b.append(" trace ").append(x.trace()).append(" could ");
    for (int a = 0; a < 5; a++) b.append(' ').append(x.could(a, 1)).append(' ').append(x.could(a, 6));
    for (int p = 0; p < 3; p++) b.append(" plank ").append(x.plank(p, 0)).append(' ').append(x.plank(p, 1));
    for (int c = 0; c < 8; c++) b.append(" child ").append(x.child(c, 0)).append(' ').append(x.child(c, 1));
    for (int s = 0; s < 5; s++) b.append(" stone ").append(x.stone(s, 0));
    lookAtPlaces(x, b);
  }

  private static void lookAtPlaces(SeesawPark x, StringBuilder b) {
    for (int c = 0; c < 8; c++) b.append(" child ").append(x.child(c, 2)).append(' ').append(x.child(c, 3)).append(' ').append(x.child(c, 4));
    for (int s = 0; s < 5; s++) b.append(" stone ").append(x.stone(s, 1)).append(' ').append(x.stone(s, 2));
  }

  static void end() {
    System.out.println(wrong == 0 ? asked + " answers are as due" : wrong + " of " + asked + " answers are not as due");
    if (wrong != 0) System.exit(1);
  }
}
