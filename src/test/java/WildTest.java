import java.util.Random;

/** Wild arguments in all states: no call throws, and what is refused changes nothing. */
public final class WildTest {
  private static final int[] EDGES = {Integer.MIN_VALUE, Integer.MIN_VALUE + 1, -1000000, -256, -11, -10, -9, -5, -4, -3, -2, -1,
      0, 1, 2, 3, 4, 5, 6, 7, 8, 9, 12, 13, 20, 21, 31, 32, 60, 61, 99, 100, 255, 256, 300, 301, Integer.MAX_VALUE - 1, Integer.MAX_VALUE};

  public static void main(String[] args) {
    for (int seed = 0; seed < 300; seed++) run(seed, new Random(seed));
    dearest();
    Due.end();
  }

  private static int any(Random r) {
    return r.nextInt(3) > 0 ? r.nextInt(12) - 4 : EDGES[r.nextInt(EDGES.length)];
  }

  private static String text(Random r) {
    String[] tokens = {"plank", "child", "stone", ";", " ", "0", "1", "2", "4", "20", "60", "99", "100", "00", "x", "Z", "" + (char) 255, "" + (char) 0};
    StringBuilder b = new StringBuilder();
    if (r.nextBoolean()) b.append("plank 4 5;plank 1 0;").append("child 9 2;".repeat(r.nextInt(9))).append("stone 7;".repeat(r.nextInt(6)));
    for (int i = r.nextInt(4); i > 0; i--) b.append(tokens[r.nextInt(tokens.length)]);
    return b.toString();
  }

  private static void run(int seed, Random r) {
    SeesawPark x = new SeesawPark();
    for (int call = 0; call < 512; call++) {
      int which = r.nextInt(30), a = any(r), b = any(r), c = any(r);
      long before = state(x);
      try {
        long answer = ask(x, which, a, b, c, r);
        boolean refused = answer == SeesawPark.BAD || answer == SeesawPark.STATE || answer == SeesawPark.FULL || answer == SeesawPark.NO;
        if (refused) Due.is("seed " + seed + " call " + call + ": what is refused changes nothing", state(x), before);
      } catch (RuntimeException e) {
        Due.holds("seed " + seed + ": call " + which + " of " + a + ", " + b + ", " + c + " threw " + e, false);
      }
    }
  }

  private static long ask(SeesawPark x, int which, int a, int b, int c, Random r) {
    switch (which) {
      case 0: return x.type(r.nextLong(), a);
      case 1: return x.clear();
      case 2: case 27: { x.clear(); Due.type(x, text(r)); return x.park() < 0 ? 0 : 1; }
      case 3: return x.plank(a, b);
      case 4: return x.child(a, b);
      case 5: return x.stone(a, b);
      case 6: case 28: return x.sits(a, b, c);
      case 7: return x.leaves(a);
      case 8: case 29: return x.lay(a, b, c);
      case 9: return x.take(a);
      case 10: return x.ways(a, b, c);
      case 11: return x.most(a, b);
      case 12: return x.moves(a);
      case 13: return x.ballast(a, b);
      case 14: return x.game(a, b);
      case 15: return x.strangers(a);
      case 16: return x.trial(a, b, c);
      case 17: return x.could(a, b);
      case 18: return x.sure(a);
      case 19: return x.next(a);
      case 20: return x.rides(a, b);
      case 21: return x.forever();
      case 22: return x.rate(a, b);
      case 23: return x.keep(a);
      case 24: return x.back(a);
      case 25: return x.count(a);
      default: return x.trace();
    }
  }

  /** All that can be read of a park without a change, as one number. */
  private static long state(SeesawPark x) {
    long h = x.trace();
    for (int what = 0; what < 7; what++) h = 31 * h + x.count(what);
    for (int i = 0; i < 9; i++) {
      for (int what = 0; what < 5; what++) h = 31 * (31 * (31 * h + x.plank(i, what)) + x.child(i, what)) + x.stone(i, what);
    }
    return 31 * h + x.could(-1, 1);
  }

  /** The dearest calls, 512 of them on one object, end soon. */
  private static void dearest() {
    SeesawPark x = Due.parkOf("plank 4 0;" + "child 60 30;".repeat(8) + "stone 1;");
    x.lay(0, 0, 1);
    for (int i = 0; i < 8; i++) x.sits(i, 0, i < 4 ? i - 4 : i - 3);
    for (int call = 0; call < 120; call++) {
      Due.is("no set is level", x.most(0, 0), SeesawPark.NONE);
      Due.is("no way is level", x.ways(0, 255, -1), 0);
      Due.is("no moves help", x.moves(0), SeesawPark.NONE);
      Due.is("an empty game", x.game(0, 0), SeesawPark.STATE);
    }
  }
}
