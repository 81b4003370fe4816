import java.util.ArrayList;
import java.util.List;
import java.util.Random;
import java.util.TreeMap;

/** Random runs against a second telling of the document, written as plainly as can be: every way is tried. */
public final class ModelTest {
  private static final int BAD = -1, STATE = -2, FULL = -3, NONE = -9, NO = -1000000;

  /** Where a body is: -1 and 0 are nowhere. */
  private static final class At {
    int plank = -1, step = 0, bumped = 0;
    final int weight, wish;
    At(int weight, int wish) { this.weight = weight; this.wish = wish; }
    void be(At other) { plank = other.plank; step = other.step; bumped = other.bumped; }
    At copy() { At a = new At(weight, wish); a.be(this); return a; }
  }

  private static final class Model {
    final List<int[]> planks = new ArrayList<>();
    final List<At> children = new ArrayList<>(), stones = new ArrayList<>();
    final List<List<At>> images = new ArrayList<>(List.of(new ArrayList<>(), new ArrayList<>()));
    final boolean[] kept = new boolean[2];
    final List<int[]> trials = new ArrayList<>();
    int strangers = 2;
    long trace = 0;

    String text() {
      StringBuilder b = new StringBuilder();
      for (int[] p : planks) b.append("plank ").append(p[0]).append(' ').append(p[1]).append(';');
      for (At c : children) b.append("child ").append(c.weight).append(' ').append(c.wish).append(';');
      for (At s : stones) b.append("stone ").append(s.weight).append(';');
      return b.toString();
    }

    List<At> bodies() { List<At> all = new ArrayList<>(children); all.addAll(stones); return all; }
    int moment(int p) { int m = 0; for (At a : bodies()) if (a.plank == p) m += a.weight * a.step; return m; }
    boolean level(int p, int m) { return -planks.get(p)[1] <= m && m <= planks.get(p)[1]; }
    int tilt(int p) { return level(p, moment(p)) ? 0 : moment(p) < 0 ? -1 : 1; }
    int sitting() { int n = 0; for (At c : children) if (c.plank >= 0) n++; return n; }
    List<Integer> steps(int p) { List<Integer> l = new ArrayList<>(); for (int s = -planks.get(p)[0]; s <= planks.get(p)[0]; s++) if (s != 0) l.add(s); return l; }

    int change(At a, int p, int step) {
      int where = p >= 0 ? p : a.plank, before = tilt(where), bumps = 0;
      a.plank = p; a.step = step;
      int now = tilt(where);
      if (now != 0 && now != before) for (At c : children) if (c.plank == where && c.step * now > 0) { c.bumped++; bumps++; }
      return bumps;
    }

    int put(List<At> all, int i, int p, int step) {
      if (i < 0 || i >= all.size() || p < 0 || p >= planks.size() || !steps(p).contains(step)) return BAD;
      for (At a : all) if (a.plank == p && a.step == step) return STATE;
      At a = all.get(i);
      int bumps = a.plank >= 0 ? change(a, -1, 0) : 0;
      return bumps + change(a, p, step);
    }

    int off(List<At> all, int i) {
      if (i < 0 || i >= all.size()) return BAD;
      return all.get(i).plank < 0 ? STATE : change(all.get(i), -1, 0);
    }

    int stoneMoment(int p) { int m = 0; for (At a : stones) if (a.plank == p) m += a.weight * a.step; return m; }

    /** All ways to put these weights on these steps, first bodies first, least steps first. */
    List<List<Integer>> all(List<Integer> weights, List<Integer> free, int base, int p) {
      List<List<Integer>> out = new ArrayList<>();
      if (weights.isEmpty()) { if (level(p, base)) out.add(new ArrayList<>()); return out; }
      for (Integer s : free) {
        List<Integer> rest = new ArrayList<>(free);
        rest.remove(s);
        for (List<Integer> w : all(weights.subList(1, weights.size()), rest, base + weights.get(0) * s, p)) { w.add(0, s); out.add(w); }
      }
      return out;
    }

    List<Integer> weights(List<At> of, int set) { List<Integer> l = new ArrayList<>(); for (int i = 0; i < of.size(); i++) if ((set >> i & 1) == 1) l.add(of.get(i).weight); return l; }

    int ways(int p, int set, int c) {
      set &= (1 << children.size()) - 1;
      List<List<Integer>> found = all(weights(children, set), steps(p), stoneMoment(p), p);
      if (c == -1) return found.size();
      if (found.isEmpty()) return NONE;
      return (set >> c & 1) == 0 ? 0 : found.get(0).get(Integer.bitCount(set & (1 << c) - 1));
    }

    int most(int p) {
      int best = -1;
      for (int set = 0; set < 1 << children.size(); set++)
        if ((best < 0 || Integer.bitCount(set) > Integer.bitCount(best)) && Integer.bitCount(set) <= 2 * planks.get(p)[0] && ways(p, set, -1) > 0) best = set;
      return best;
    }

    int moves(int p) {
      int set = 0, best = 99;
      List<Integer> now = new ArrayList<>();
      for (int i = 0; i < children.size(); i++) if (children.get(i).plank == p) { set |= 1 << i; now.add(children.get(i).step); }
      for (List<Integer> w : all(weights(children, set), steps(p), stoneMoment(p), p)) {
        int n = 0;
        for (int i = 0; i < w.size(); i++) if (!w.get(i).equals(now.get(i))) n++;
        best = Math.min(best, n);
      }
      return best == 99 ? NONE : best;
    }

    int ballast(int p) {
      int best = -1;
      List<Integer> free = steps(p);
      for (At s : stones) if (s.plank == p) free.remove((Integer) s.step);
      next:
      for (int set = 0; set < 1 << stones.size(); set++) {
        for (int i = 0; i < stones.size(); i++) if ((set >> i & 1) == 1 && stones.get(i).plank >= 0) continue next;
        if ((best < 0 || Integer.bitCount(set) < Integer.bitCount(best)) && !all(weights(stones, set), free, moment(p), p).isEmpty()) best = set;
      }
      return best;
    }

    /** The first winning move, or -1, by really seating the children. */
    int winner(int p) {
      for (int i = 0; i < children.size(); i++) {
        At c = children.get(i);
        if (c.plank >= 0) continue;
        for (int s : steps(p)) {
          boolean taken = false;
          for (At o : children) taken |= o.plank == p && o.step == s;
          if (taken) continue;
          c.plank = p; c.step = s;
          boolean wins = tilt(p) == 0 && winner(p) < 0;
          c.plank = -1; c.step = 0;
          if (wins) return 100 * i + s + 4;
        }
      }
      return -1;
    }

    int game(int p, int what) {
      if (children.size() - sitting() > 4 || tilt(p) != 0) return STATE;
      int move = winner(p);
      return what == 0 ? (move < 0 ? 0 : 1) : move < 0 ? NONE : move;
    }

    List<int[]> fitting() {
      List<int[]> out = new ArrayList<>();
      int all = 1;
      for (int i = 0; i < strangers; i++) all *= 6;
      next:
      for (int code = 0; code < all; code++) {
        int[] w = new int[strangers];
        for (int i = 0, rest = code; i < strangers; i++, rest /= 6) w[i] = rest % 6 + 1;
        for (int[] t : trials) if (t[2] == -1 ? w[t[0]] <= w[t[1]] : t[2] == 1 ? w[t[1]] <= w[t[0]] : w[t[0]] != w[t[1]]) continue next;
        out.add(w);
      }
      return out;
    }

    int could(int a, int w) { int n = 0; for (int[] f : fitting()) if (a == -1 || f[a] == w) n++; return n; }
    int sure(int a) { int only = NONE, n = 0; for (int w = 1; w <= 6; w++) if (could(a, w) > 0) { only = w; n++; } return n == 1 ? only : NONE; }

    int next(int what) {
      List<int[]> fit = fitting();
      TreeMap<Integer, Integer> byPair = new TreeMap<>();
      for (int a = 0; a < strangers; a++) for (int b = a + 1; b < strangers; b++) {
        int left = 0, alike = 0, right = 0;
        for (int[] f : fit) if (f[a] > f[b]) left++; else if (f[a] == f[b]) alike++; else right++;
        byPair.put(10 * a + b, Math.max(left, Math.max(alike, right)));
      }
      int best = byPair.firstKey();
      for (int pair : byPair.keySet()) if (byPair.get(pair) < byPair.get(best)) best = pair;
      return what == 0 ? best : byPair.get(best);
    }

    int rides(int minutes, int c) {
      List<Integer> row = new ArrayList<>();
      int[] ridden = new int[children.size()];
      List<List<Integer>> on = new ArrayList<>();
      for (int i = 0; i < children.size(); i++) row.add(i);
      for (int p = 0; p < planks.size(); p++) on.add(new ArrayList<>());
      for (int m = 0; m < minutes; m++) {
        for (int p = 0; p < planks.size(); p++) {
          boolean done = false;
          for (int r : on.get(p)) done |= ridden[r] == children.get(r).wish;
          if (done) {
            for (int r : on.get(p)) if (ridden[r] < children.get(r).wish) row.add(r);
            on.get(p).clear();
          }
          for (int i = 0; i < row.size() && on.get(p).isEmpty(); i++) for (int j = i + 1; j < row.size(); j++)
            if (fits(p, row.get(i), row.get(j))) { on.get(p).addAll(List.of(row.get(i), row.get(j))); break; }
          row.removeAll(on.get(p));
        }
        for (List<Integer> two : on) for (int r : two) ridden[r]++;
      }
      return c == -1 ? row.size() : ridden[c];
    }

    boolean fits(int p, int c, int d) { return Math.abs(children.get(c).weight - children.get(d).weight) <= planks.get(p)[1]; }

    int forever() {
      int set = (1 << children.size()) - 1;
      for (int p = 0; p < planks.size(); p++) for (int c = 0; c < children.size(); c++) for (int d = 0; d < children.size(); d++)
        if (c != d && fits(p, c, d)) set &= ~(1 << c);
      return set;
    }

    int rate(int kind, int i) {
      At c = children.get(i);
      int bold = c.weight + c.bumped, shy = c.weight - c.step;
      trace += new int[] {1, 11, 101, 1011, 10101, 100001}[kind];
      return new int[] {c.weight, bold, shy, 2 * bold, shy + c.wish, c.weight - i}[kind];
    }

    int keep(int i) {
      images.get(i).clear();
      for (At a : bodies()) images.get(i).add(a.copy());
      kept[i] = true;
      return sitting();
    }

    int back(int i) {
      if (!kept[i]) return STATE;
      List<At> all = bodies();
      for (int k = 0; k < all.size(); k++) all.get(k).be(images.get(i).get(k));
      return sitting();
    }
  }

  private static int countOrSet(int set, int what) { return set < 0 ? NONE : what == 0 ? Integer.bitCount(set) : set; }

  public static void main(String[] args) {
    for (int seed = 0; seed < 400; seed++) run(seed, new Random(seed));
    for (int seed = 0; seed < 30; seed++) mostOfEight(seed, new Random(seed));
    Due.end();
  }

  /** The plain model is too slow for all sets of eight: here the ways of the class itself, set by set, tell. */
  private static void mostOfEight(int seed, Random r) {
    Model m = new Model();
    int heaviest = seed % 2 == 0 ? 60 : 9, factor = seed % 3 == 0 ? 2 : 1;
    m.planks.add(new int[] {3 + r.nextInt(2), factor == 2 ? 0 : r.nextInt(3)});
    for (int i = 0; i < 8; i++) m.children.add(new At(factor * (1 + r.nextInt(heaviest / factor)), 1));
    for (int i = 0; i < 3; i++) m.stones.add(new At(1 + r.nextInt(20), 0));
    SeesawPark x = Due.parkOf(m.text());
    for (int s = 0; s < r.nextInt(4); s++) x.lay(s, 0, s == 0 ? -3 : s);
    int best = -1;
    for (int set = 0; set < 256; set++)
      if (x.ways(0, set, -1) > 0 && (best < 0 || Integer.bitCount(set) > Integer.bitCount(best))) best = set;
    for (int what = 0; what < 2; what++) Due.is("most of eight, seed " + seed, x.most(0, what), countOrSet(best, what));
  }

  private static Model randomPark(Random r) {
    Model m = new Model();
    int heaviest = new int[] {3, 10, 60}[r.nextInt(3)], slackest = new int[] {1, 6, 21}[r.nextInt(3)];
    for (int i = r.nextInt(4); i > 0; i--) m.planks.add(new int[] {1 + r.nextInt(4), r.nextInt(slackest)});
    int most = r.nextInt(12) == 0 ? 8 : 6;
    for (int i = r.nextInt(most + 1); i > 0; i--) m.children.add(new At(1 + r.nextInt(heaviest), 1 + r.nextInt(r.nextBoolean() ? 5 : 30)));
    for (int i = r.nextInt(6); i > 0; i--) m.stones.add(new At(1 + r.nextInt(Math.min(20, heaviest)), 0));
    return m;
  }

  private static void run(int seed, Random r) {
    Model m = randomPark(r);
    SeesawPark x = Due.parkOf(m.text());
    for (int call = 0; call < 150; call++) {
      String at = "seed " + seed + " call " + call + " ";
      int p = r.nextInt(4), c = r.nextInt(9), s = r.nextInt(6), step = r.nextInt(9) - 4, what = r.nextInt(2);
      switch (r.nextInt(8)) {
        case 0: case 1: Due.is(at + "sits", x.sits(c, p, step), m.put(m.children, c, p, step)); break;
        case 2: Due.is(at + "leaves", x.leaves(c), m.off(m.children, c)); break;
        case 3: Due.is(at + "lay", x.lay(s, p, step), m.put(m.stones, s, p, step)); break;
        case 4: Due.is(at + "take", x.take(s), m.off(m.stones, s)); break;
        case 5: if (r.nextBoolean()) Due.is(at + "keep", x.keep(what), m.keep(what)); else Due.is(at + "back", x.back(what), m.back(what)); break;
        case 6: strangers(at, x, m, r); break;
        default: ask(at, x, m, r, what); break;
      }
      compare(at, x, m);
    }
  }

  private static void strangers(String at, SeesawPark x, Model m, Random r) {
    int a = r.nextInt(m.strangers + 1), b = r.nextInt(m.strangers + 1), d = r.nextInt(3) - 1;
    if (r.nextInt(10) == 0) {
      Due.is(at + "strangers", x.strangers(2 + a % 4), m.strangers);
      m.strangers = 2 + a % 4;
      m.trials.clear();
      return;
    }
    int due = a == b || a == m.strangers || b == m.strangers ? BAD : m.trials.size() == 12 ? FULL : m.trials.size() + 1;
    Due.is(at + "trial", x.trial(a, b, d), due);
    if (due > 0) m.trials.add(new int[] {a, b, d});
    for (int who = 0; who < m.strangers; who += 2) Due.is(at + "sure", x.sure(who), m.sure(who));
    Due.is(at + "could all", x.could(-1, 1 + r.nextInt(6)), m.could(-1, 1));
    int w = 1 + r.nextInt(6);
    Due.is(at + "could", x.could(0, w), m.could(0, w));
    for (int what = 0; what < 2; what++) Due.is(at + "next", x.next(what), m.next(what));
  }

  private static void ask(String at, SeesawPark x, Model m, Random r, int what) {
    int minutes = r.nextInt(r.nextBoolean() ? 10 : 100);
    for (int c = -1; c < m.children.size(); c++) Due.is(at + "rides", x.rides(minutes, c), m.rides(minutes, c));
    Due.is(at + "forever", x.forever(), m.forever());
    for (int p = 0; p < m.planks.size(); p++) {
      Due.is(at + "moves", x.moves(p), m.moves(p));
      Due.is(at + "ballast", x.ballast(p, what), countOrSet(m.ballast(p), what));
      Due.is(at + "game", x.game(p, what), m.game(p, what));
      int set = r.nextInt();
      if (m.children.size() > 6) set &= 0x7e;
      for (int c = -1; c < m.children.size(); c++) Due.is(at + "ways", x.ways(p, set, c), m.ways(p, set, c));
      if (m.children.size() <= 5 || m.planks.get(p)[0] <= 2) Due.is(at + "most", x.most(p, what), countOrSet(m.most(p), what));
    }
    for (int c = 0; c < m.children.size(); c++) {
      int kind = r.nextInt(6);
      Due.is(at + "rate", x.rate(kind, c), m.rate(kind, c));
    }
    Due.is(at + "trace", x.trace(), m.trace);
  }

  private static void compare(String at, SeesawPark x, Model m) {
    for (int p = 0; p < m.planks.size(); p++) {
      Due.is(at + "moment", x.plank(p, 2), m.moment(p));
      Due.is(at + "tilt", x.plank(p, 3), m.tilt(p));
    }
    for (int c = 0; c < m.children.size(); c++) {
      At a = m.children.get(c);
      Due.is(at + "child's plank", x.child(c, 2), a.plank < 0 ? NONE : a.plank);
      Due.is(at + "child's step", x.child(c, 3), a.step);
      Due.is(at + "child's bumps", x.child(c, 4), a.bumped);
    }
    for (int s = 0; s < m.stones.size(); s++) {
      At a = m.stones.get(s);
      Due.is(at + "stone's plank", x.stone(s, 1), a.plank < 0 ? NONE : a.plank);
      Due.is(at + "stone's step", x.stone(s, 2), a.step);
    }
    Due.is(at + "sitting", x.count(6), m.sitting());
    Due.is(at + "trials", x.count(3), m.trials.size());
    Due.is(at + "beyond", x.plank(m.planks.size(), 0), NO);
  }
}
