import java.util.ArrayList;
import java.util.List;
import java.util.Random;
import java.util.regex.Matcher;
import java.util.regex.Pattern;

/** Random texts, right ones and those with a slip or two, against a second reader that works on patterns. */
public final class TextsTest {
  /** A TOKEN, or a byte that begins none. */
  private static final Pattern TOKEN = Pattern.compile("[a-z]+|[0-9]+|[^ ]", Pattern.DOTALL);
  private static final List<String> WORDS = List.of("plank", "child", "stone");
  private static final int[] AT_MOST = {3, 8, 5};
  private static final int[][][] RANGES = {{{1, 4}, {0, 20}}, {{1, 60}, {1, 30}}, {{1, 20}}};
  private static final String[] SLIPS = {"", " ", ";", "plank", "child", "stone", "stones", "lank", "0", "00", "07", "5", "21", "31", "61", "99", "100", "12345678901234567890",
      "-1", "+", "Stone", "\t", "\n", "" + (char) 0, "" + (char) 160, "" + (char) 255, "3x", "x3", ":", "/", "`", "{"};

  /** What the second reader made of a text: the answer that is due, and the numbers of all planks, children and stones. */
  private static final class Reading {
    final List<List<int[]>> things = List.of(new ArrayList<>(), new ArrayList<>(), new ArrayList<>());
    int items = 0;
    int answer;

    Reading(String text) {
      Matcher m = TOKEN.matcher(text);
      int fault = -1;
      while (fault < 0 && m.find()) fault = item(m, text.length());
      answer = fault < 0 ? items : -10 - fault;
    }

    /** Reads an ITEM whose first TOKEN is found: its FAULT, or -1. */
    private int item(Matcher m, int length) {
      int sort = WORDS.indexOf(m.group());
      if (sort < 0 || things.get(sort).size() == AT_MOST[sort]) return m.start();
      int[] numbers = new int[RANGES[sort].length];
      for (int i = 0; i < numbers.length; i++) {
        if (!m.find()) return length;
        if (!m.group().matches("0|[1-9][0-9]?")) return m.start();
        numbers[i] = Integer.parseInt(m.group());
        if (numbers[i] < RANGES[sort][i][0] || numbers[i] > RANGES[sort][i][1]) return m.start();
      }
      if (!m.find()) return length;
      if (!m.group().equals(";")) return m.start();
      things.get(sort).add(numbers);
      items++;
      return -1;
    }
  }

  public static void main(String[] args) {
    int faults = 0, right = 0;
    for (int seed = 0; seed < 6000; seed++) {
      Random r = new Random(seed);
      String text = text(r);
      if (new Reading(text).answer < 0) faults++;
      else right++;
      check(seed, r, text);
    }
    Due.holds("2, 4 texts of both sorts: " + faults + " with a FAULT, " + right + " without", faults > 1500 && right > 1500);
    Due.end();
  }

  private static String text(Random r) {
    List<String> tokens = new ArrayList<>();
    for (int i = r.nextInt(r.nextInt(4) == 0 ? 20 : 9); i > 0; i--) {
      int sort = r.nextInt(3);
      tokens.add(WORDS.get(sort));
      for (int[] range : RANGES[sort]) tokens.add("" + (range[0] + r.nextInt(range[1] - range[0] + 1)));
      tokens.add(";");
    }
    for (int slips = Math.max(0, r.nextInt(4) - 1); slips > 0; slips--) {
      int at = r.nextInt(tokens.size() + 1);
      String slip = SLIPS[r.nextInt(SLIPS.length)];
      if (r.nextBoolean() || at == tokens.size()) tokens.add(at, slip);
      else tokens.set(at, slip);
    }
    StringBuilder b = new StringBuilder();
    boolean sparing = r.nextBoolean();
    for (String token : tokens) {
      boolean glued = r.nextInt(40) == 0 || sparing && (token.equals(";") || token.length() == 5);
      b.append(" ".repeat(glued ? 0 : 1 + r.nextInt(8) / 7)).append(token);
    }
    b.append(" ".repeat(r.nextInt(5) / 3));
    if (r.nextInt(4) == 0) b.setLength(r.nextInt(b.length() + 1));
    b.setLength(Math.min(300, b.length()));
    return b.toString();
  }

  private static void check(int seed, Random r, String text) {
    SeesawPark x = Due.parkOf("plank 4 20;child 60 30;stone 20;");
    typeByParts(x, r, text);
    Reading due = new Reading(text);
    Due.is("4 seed " + seed + ": park() of '" + text + "'", x.park(), due.answer);
    if (due.answer < 0) {
      Due.is("4 seed " + seed + ": nothing changes: the text", x.count(5), text.length());
      Due.is("4 seed " + seed + ": nothing changes: all there is", x.plank(0, 0) + x.child(0, 1) + x.stone(0, 0), 4 + 30 + 20);
      Due.is("4 seed " + seed + ": the same FAULT once more", x.park(), due.answer);
      return;
    }
    Due.is("4 seed " + seed + ": the text is empty", x.count(5), 0);
    for (int sort = 0; sort < 3; sort++) {
      List<int[]> all = due.things.get(sort);
      Due.is("27 seed " + seed + ": how many, sort " + sort, x.count(sort), all.size());
      for (int i = 0; i < all.size(); i++) for (int what = 0; what < all.get(i).length; what++)
        Due.is((5 + sort) + " seed " + seed + ": number " + what + " of " + WORDS.get(sort) + " " + i, ask(x, sort, i, what), all.get(i)[what]);
      Due.is((5 + sort) + " seed " + seed + ": no more of them", ask(x, sort, all.size(), 0), SeesawPark.NO);
    }
  }

  private static int ask(SeesawPark x, int sort, int i, int what) {
    return sort == 0 ? x.plank(i, what) : sort == 1 ? x.child(i, what) : x.stone(i, what);
  }

  /** Types 1 to 8 bytes at a time; the bits above them are anything. */
  private static void typeByParts(SeesawPark x, Random r, String text) {
    for (int from = 0, n; from < text.length(); from += n) {
      n = Math.min(1 + r.nextInt(8), text.length() - from);
      long v = r.nextLong();
      for (int i = 0; i < n; i++) v = v << 8 | text.charAt(from + i);
      Due.is("2 " + n + " bytes come to the text", x.type(v, n), from + n);
    }
  }
}
