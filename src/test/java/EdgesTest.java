/**
 * The edges that the promises name, call by call: each number's last value that is allowed and the first that is not,
 * what is refused ahead of what, that nothing changes then, and the cases of which parts 3 and 4 of "Terms" tell.
 * Each answer is named by the number of its promise and by the words that it holds to.
 */
public final class EdgesTest {
  private static final int BAD = -1, STATE = -2, FULL = -3, NONE = -9, NO = -1000000;

  private static void nothing(SeesawPark x) { }

  public static void main(String[] args) {
    newObject();
    type();
    clear();
    park();
    readAnew();
    plank();
    child();
    stone();
    sits();
    leaves();
    lay();
    take();
    ways();
    waysOfSome();
    most();
    moves();
    ballast();
    game();
    seatsOfPlank();
    strangers();
    trial();
    could();
    sure();
    next();
    rides();
    ridesByMinutes();
    forever();
    rate();
    keep();
    back();
    count();
    trace();
    Due.end();
  }

  // ---- the park

  private static void newObject() {
    Due.is("1 the constant BAD", SeesawPark.BAD, BAD);
    Due.is("1 the constant STATE", SeesawPark.STATE, STATE);
    Due.is("1 the constant FULL", SeesawPark.FULL, FULL);
    Due.is("1 the constant NONE", SeesawPark.NONE, NONE);
    Due.is("1 the constant NO", SeesawPark.NO, NO);
    SeesawPark x = new SeesawPark();
    String[] counts = {"no PLANKS", "no CHILDREN", "no STONES", "no TRIALS", "2 STRANGERS at first", "THE TEXT is empty", "nobody sits"};
    for (int what = 0; what < 7; what++) Due.is("1 " + counts[what], x.count(what), what == 4 ? 2 : 0);
    Due.is("1 THE TRACE, 0 at first", x.trace(), 0);
    Due.History fresh = EdgesTest::nothing;
    Due.changesNothing("1 no PLANKS: plank", fresh, NO, y -> y.plank(0, 0));
    Due.changesNothing("1 no CHILDREN: child", fresh, NO, y -> y.child(0, 0));
    Due.changesNothing("1 no STONES: stone", fresh, NO, y -> y.stone(0, 0));
    Due.changesNothing("1 no CHILDREN: sits", fresh, BAD, y -> y.sits(0, 0, 1));
    Due.changesNothing("1 no CHILDREN: leaves", fresh, BAD, y -> y.leaves(0));
    Due.changesNothing("1 no STONES: lay", fresh, BAD, y -> y.lay(0, 0, 1));
    Due.changesNothing("1 no STONES: take", fresh, BAD, y -> y.take(0));
    Due.changesNothing("1 no PLANKS: ways", fresh, NO, y -> y.ways(0, 0, -1));
    Due.changesNothing("1 no PLANKS: most", fresh, BAD, y -> y.most(0, 0));
    Due.changesNothing("1 no PLANKS: moves", fresh, BAD, y -> y.moves(0));
    Due.changesNothing("1 no PLANKS: ballast", fresh, BAD, y -> y.ballast(0, 0));
    Due.changesNothing("1 no PLANKS: game", fresh, BAD, y -> y.game(0, 0));
    Due.changesNothing("1 no CHILDREN: rides", fresh, BAD, y -> y.rides(0, 0));
    Due.changesNothing("1 nobody waits", fresh, 0, y -> y.rides(99, -1));
    Due.changesNothing("1 no CHILDREN: forever", fresh, 0, y -> y.forever());
    Due.changesNothing("1 no CHILDREN: rate", fresh, NO, y -> y.rate(0, 0));
    Due.changesNothing("1 no IMAGE 0", fresh, STATE, y -> y.back(0));
    Due.changesNothing("1 no IMAGE 1", fresh, STATE, y -> y.back(1));
    Due.changesNothing("1 no TRIALS: all COULD be", fresh, 36, y -> y.could(-1, 1));
  }

  private static void type() {
    Due.range("2 n (1 .. 8)", Due::busy, 1, 8, BAD, (x, n) -> x.type(0x2020202020202020L, n));
    for (int n = 1; n <= 8; n++) {
      SeesawPark x = new SeesawPark();
      Due.is("2 how many it has: " + n, x.type(0x2020202020202020L, n), n);
      Due.is("2 how many it has: " + n + " and 1", x.type(' ', 1), n + 1);
      // All bytes above the lowest n are such that begin no token, and would be a fault.
      long blanks = n == 8 ? 0x2020202020202020L : -1L << 8 * n | 0x2020202020202020L & ~(-1L << 8 * n);
      SeesawPark y = new SeesawPark();
      y.type(blanks, n);
      Due.is("2 the lowest n bytes of v: " + n, y.park(), 0);
      for (int at = 0; at < n; at++) {
        SeesawPark z = new SeesawPark();
        z.type(0x2020202020202020L ^ 0xe0L << 8 * at, n);
        Due.is("2 the highest of them first: " + n + ", byte " + at, z.park(), -10 - (n - 1 - at));
      }
    }
    Due.History full = x -> Due.type(x, "stone 5;" + " ".repeat(292));
    Due.changesNothing("2 FULL", full, FULL, x -> x.type(' ', 1));
    for (int n : new int[] {0, 9, -1, Due.LEAST, Due.GREATEST}) Due.changesNothing("2 BAD ahead of FULL: n " + n, full, BAD, x -> x.type(' ', n));
  }

  private static void clear() {
    SeesawPark x = new SeesawPark();
    Due.is("3 empty: how many bytes it had", x.clear(), 0);
    Due.type(x, " ".repeat(300));
    Due.is("3 full: how many bytes it had", x.clear(), 300);
    Due.is("3 THE TEXT is empty", x.count(5), 0);
    Due.type(x, "#".repeat(300));
    x.clear();
    Due.is("3 THE TEXT is empty: none of it is read", x.park(), 0);
    Due.is("3 THE TEXT is empty: it takes as much again", x.type(' ', 8), 8);
    SeesawPark y = new SeesawPark();
    Due.busy(y);
    Due.is("3 of a busy park", y.clear(), 28);
    Due.is("3 nothing but THE TEXT: who sits", y.count(6), 4);
    Due.is("3 nothing but THE TEXT: TRIALS", y.count(3), 2);
    Due.is("3 nothing but THE TEXT: IMAGES", y.back(0), 1);
    Due.is("3 nothing but THE TEXT: THE TRACE", y.trace(), 1011);
  }

  private static void park() {
    SeesawPark x = new SeesawPark();
    Due.is("4 an empty text", x.park(), 0);
    Due.type(x, "stone 1;");
    Due.is("4 how many ITEMS", x.park(), 1);
    Due.is("4 THE TEXT is empty then", x.count(5), 0);
    Due.is("4 an empty text tells all: none", x.park(), 0);
    Due.is("4 an empty text tells all: no STONES", x.count(2), 0);
    Due.is("4 -10 less FAULT: at the first byte", x.type('#', 1) - 1 + x.park(), -10);
    Due.is("4 nothing changes: THE TEXT stays", x.count(5), 1);
    Due.type(x, "2");
    Due.is("4 nothing changes: its FAULT stays", x.park(), -10);
    Due.changesNothing("4 -10 less FAULT in a busy park", y -> {
      Due.busy(y);
      Due.type(y, "plank 1 1;plank 1 1");
    }, -10 - 47, SeesawPark::park);
    SeesawPark z = Due.parkOf("stone 1;");
    Due.type(z, "stone 2");
    Due.is("4 it ends too early", z.park(), -17);
    Due.type(z, ";");
    Due.is("4 and goes on", z.park(), 1);
    Due.is("4 as told anew", z.stone(0, 0), 2);
  }

  private static void readAnew() {
    SeesawPark x = new SeesawPark();
    Due.busy(x);
    x.clear();
    Due.type(x, "plank 3 2;plank 1 0;child 10 2;child 20 3;child 1 4;child 5 30;stone 4;stone 20;");
    Due.is("4 read anew, the same text", x.park(), 8);
    Due.is("4 read anew: nobody sits", x.count(6), 0);
    for (int c = 0; c < 4; c++) {
      Due.is("4 read anew: nobody sits, PLANK of " + c, x.child(c, 2), NONE);
      Due.is("4 read anew: nobody sits, step of " + c, x.child(c, 3), 0);
      Due.is("4 read anew: nobody was BUMPED, " + c, x.child(c, 4), 0);
    }
    for (int s = 0; s < 2; s++) Due.is("4 read anew: STONES are nowhere (at first), " + s, x.stone(s, 1), NONE);
    for (int p = 0; p < 2; p++) Due.is("4 read anew: LEVEL, " + p, x.plank(p, 2), 0);
    Due.is("4 read anew: IMAGE 0 is gone", x.back(0), STATE);
    Due.is("4 read anew: IMAGE 1 is gone", x.back(1), STATE);
    Due.is("4 read anew: STRANGERS stay", x.count(4), 3);
    Due.is("4 read anew: TRIALS stay", x.count(3), 2);
    Due.is("4 read anew: what they tell, too", x.could(-1, 1), 15);
    Due.is("4 read anew: THE TRACE stays", x.trace(), 1011);
    Due.is("4 read anew: a SEAT is free", x.sits(1, 0, -2), 1);
    Due.type(x, "child 1 1;");
    Due.is("4 read anew, fewer", x.park(), 1);
    Due.is("4 read anew: PLANKS that are told no more", x.plank(0, 0), NO);
    Due.is("4 read anew: STONES that are told no more", x.stone(0, 0), NO);
    Due.is("4 read anew: children that are told no more", x.child(1, 0), NO);
    Due.is("4 read anew: nobody sits of more", x.count(6), 0);
    Due.type(x, "plank 3 2;child 1 1;child 1 1;");
    x.park();
    Due.is("4 read anew: who is told again sits nowhere", x.child(1, 2), NONE);
    Due.is("4 read anew: nobody is there", x.plank(0, 4), 0);
  }

  private static void plank() {
    Due.range("5 a PLANK", Due::busy, 0, 1, NO, (x, p) -> x.plank(p, 0));
    Due.range("5 what (0 .. 4)", Due::busy, 0, 4, NO, (x, what) -> x.plank(0, what));
    Due.range("5 the last of 3 PLANKS", Due.told("plank 1 0;plank 2 0;plank 3 0;"), 0, 2, NO, (x, p) -> x.plank(p, 4));
    int[] due = {3, 2, -20 + 20 + 3 - 12, -1, 3};
    for (int what = 0; what < 5; what++) {
      int asked = what;
      Due.changesNothing("5 nothing changes by asking, what " + what, Due::busy, due[what], x -> x.plank(0, asked));
    }
    SeesawPark x = Due.parkOf("plank 4 20;" + "child 1 1;".repeat(8) + "stone 1;");
    x.lay(0, 0, 1);
    for (int c = 0; c < 8; c++) {
      Due.is("5 how many children: " + c, x.plank(0, 4), c);
      x.sits(c, 0, c < 4 ? c - 4 : c - 3);
    }
    Due.is("5 how many children: all SEATS", x.plank(0, 4), 8);
  }

  private static void child() {
    Due.range("6 a child", Due::busy, 0, 3, NO, (x, c) -> x.child(c, 0));
    Due.range("6 what (0 .. 4)", Due::busy, 0, 4, NO, (x, what) -> x.child(0, what));
    Due.range("6 the last of 8 children", Due.told("child 1 1;".repeat(8)), 0, 7, NO, (x, c) -> x.child(c, 1));
    int[] due = {10, 2, 0, -2, 2};
    for (int what = 0; what < 5; what++) {
      int asked = what;
      Due.changesNothing("6 nothing changes by asking, what " + what, Due::busy, due[what], x -> x.child(0, asked));
    }
    SeesawPark x = Due.parkOf("plank 1 0;child 1 1;");
    for (int step = -1; step <= 1; step += 2) {
      x.sits(0, 0, step);
      Due.is("6 its PLANK, while it sits at " + step, x.child(0, 2), 0);
      Due.is("6 its step, while it sits at " + step, x.child(0, 3), step);
    }
    x.sits(0, 0, -1);
    x.leaves(0);
    Due.is("6 its PLANK (NONE), once it left", x.child(0, 2), NONE);
    Due.is("6 its step (0: it sits nowhere), once it left", x.child(0, 3), 0);
    Due.is("6 how often it was BUMPED, once it left", x.child(0, 4), 3);
  }

  private static void stone() {
    Due.range("7 a STONE", Due::busy, 0, 1, NO, (x, s) -> x.stone(s, 0));
    Due.range("7 what (0 .. 2)", Due::busy, 0, 2, NO, (x, what) -> x.stone(0, what));
    Due.range("7 the last of 5 STONES", Due.told("stone 1;".repeat(5)), 0, 4, NO, (x, s) -> x.stone(s, 0));
    int[] due = {20, 1, 1};
    for (int what = 0; what < 3; what++) {
      int asked = what;
      Due.changesNothing("7 nothing changes by asking, what " + what, Due::busy, due[what], x -> x.stone(1, asked));
    }
    SeesawPark x = Due.parkOf("plank 1 0;stone 1;");
    for (int step = -1; step <= 1; step += 2) {
      x.lay(0, 0, step);
      Due.is("7 its PLANK, while it is at " + step, x.stone(0, 1), 0);
      Due.is("7 its step, while it is at " + step, x.stone(0, 2), step);
    }
    x.take(0);
    Due.is("7 its PLANK (NONE), once it was taken", x.stone(0, 1), NONE);
    Due.is("7 its step (0: it is nowhere), once it was taken", x.stone(0, 2), 0);
  }

  // ---- who sits where

  private static void sits() {
    Due.range("8 a child", Due::busy, 0, 3, BAD, (x, c) -> x.sits(c, 0, -1));
    Due.range("8 a PLANK", Due::busy, 0, 1, BAD, (x, p) -> x.sits(0, p, 1));
    Due.range("8 a step on the left", Due::busy, -3, -1, BAD, (x, step) -> x.sits(0, 0, step));
    Due.range("8 a step on the right", Due::busy, 1, 3, BAD, (x, step) -> x.sits(0, 0, step));
    Due.changesNothing("8 a step that only another PLANK has", Due::busy, BAD, x -> x.sits(0, 1, 2));
    Due.changesNothing("8 STATE: a child is there", Due::busy, STATE, x -> x.sits(0, 0, 3));
    Due.changesNothing("8 STATE: it itself, too", Due::busy, STATE, x -> x.sits(0, 0, -2));
    Due.changesNothing("8 BAD ahead of STATE: no such child", Due::busy, BAD, x -> x.sits(4, 0, 3));
    Due.changesNothing("8 no PLANK, but the step of a taken SEAT", Due::busy, BAD, x -> x.sits(0, 2, 1));
    Due.changesNothing("8 step 0, where those are who sit nowhere", Due.told("plank 1 0;child 1 1;child 1 1;"), BAD, x -> x.sits(0, 0, 0));
    SeesawPark x = new SeesawPark();
    Due.busy(x);
    // Child 3 leaves plank 1, where the stone is down already; it makes plank 0 of -9 level again.
    Due.is("8 from where it was: nobody was BUMPED", x.sits(3, 0, 2), 0);
    // Child 0 leaves the left: right comes down there with 1, 2 and 3; where it comes to, right was down.
    Due.is("8 a SEAT without a child, though a STONE was laid there", x.sits(0, 1, 1), 3);
  }

  private static void leaves() {
    Due.range("9 a child", Due::busy, 0, 3, BAD, (x, c) -> x.leaves(c));
    Due.changesNothing("9 STATE: it sits nowhere, at first", Due.told("plank 1 0;child 1 1;"), STATE, x -> x.leaves(0));
    Due.changesNothing("9 STATE: it sits nowhere, once it left", x -> {
      Due.busy(x);
      x.leaves(1);
    }, STATE, x -> x.leaves(1));
    Due.changesNothing("9 no PLANK at all", Due.told("child 1 1;"), STATE, x -> x.leaves(0));
    SeesawPark x = Due.parkOf("plank 1 0;child 1 1;");
    x.sits(0, 0, 1);
    Due.is("9 the last one bumps nobody", x.leaves(0), 0);
    Due.is("9 LEVEL behind it", x.plank(0, 3), 0);
  }

  private static void lay() {
    Due.range("10 a STONE", Due::busy, 0, 1, BAD, (x, s) -> x.lay(s, 0, -1));
    Due.range("10 a PLANK", Due::busy, 0, 1, BAD, (x, p) -> x.lay(0, p, -1));
    Due.range("10 a step on the left", Due::busy, -3, -1, BAD, (x, step) -> x.lay(1, 0, step));
    Due.range("10 a step on the right", Due::busy, 1, 3, BAD, (x, step) -> x.lay(1, 0, step));
    Due.changesNothing("10 a step that only another PLANK has", Due::busy, BAD, x -> x.lay(0, 1, -2));
    Due.changesNothing("10 STATE: a STONE is there", Due::busy, STATE, x -> x.lay(0, 1, 1));
    Due.changesNothing("10 STATE: it itself, too", Due::busy, STATE, x -> x.lay(1, 1, 1));
    Due.changesNothing("10 BAD ahead of STATE: no such STONE", Due::busy, BAD, x -> x.lay(2, 1, 1));
    Due.changesNothing("10 step 0, where those are that are nowhere", Due.told("plank 1 0;stone 1;stone 1;"), BAD, x -> x.lay(0, 0, 0));
  }

  private static void take() {
    Due.range("11 a STONE", Due::busy, 0, 1, BAD, (x, s) -> x.take(s));
    Due.changesNothing("11 STATE: it is nowhere, at first", Due.told("plank 1 0;stone 1;"), STATE, x -> x.take(0));
    Due.changesNothing("11 STATE: it is nowhere, once it was taken", x -> {
      Due.busy(x);
      x.take(1);
    }, STATE, x -> x.take(1));
    SeesawPark x = new SeesawPark();
    Due.busy(x);
    Due.is("11 how many were BUMPED", x.take(1), 1);
    Due.is("11 who was BUMPED", x.child(3, 4), 1);
    Due.is("11 from left DOWN to right DOWN", x.take(0), 2);
  }

  // ---- what can be

  private static void ways() {
    Due.range("12 a PLANK", Due::busy, 0, 1, NO, (x, p) -> x.ways(p, 0, -1));
    Due.range("12 c = -1, or a child", Due::busy, -1, 3, NO, (x, c) -> x.ways(0, 15, c));
    Due.range("12 c, of 8 children", Due.told("plank 4 20;" + "child 1 1;".repeat(8)), -1, 7, NO, (x, c) -> x.ways(0, 255, c));
    Due.changesNothing("12 a child that there is not, in no set", Due::busy, NO, x -> x.ways(0, 0, 4));
    // -12 by the stone, 10 at 2 and 5 at -2: -2 in all.
    Due.changesNothing("12 STONES as they are; nothing is changed", Due::busy, 1, x -> x.ways(0, 9, -1));
    Due.changesNothing("12 nothing is changed: a step", Due::busy, 2, x -> x.ways(0, 9, 0));
    Due.changesNothing("12 nothing is changed: NONE", Due::busy, NONE, x -> x.ways(1, 3, 0));
    SeesawPark x = Due.parkOf("plank 2 0;child 2 1;child 1 1;child 60 1;");
    int[] left = {3 | 8, 3 | 16, 3 | 128, 3 | 256, 3 | 1 << 30, 3 | 1 << 31, -1 ^ 4};
    for (int set : left) {
      Due.is("12 bits of children that there are not are left out: " + set, x.ways(0, set, -1), 2);
      Due.is("12 bits left out, the first: " + set, x.ways(0, set, 1), 2);
    }
    Due.is("12 only bits of children that there are not: the empty set", x.ways(0, -8, -1), 1);
    Due.is("12 0: it is none of these", x.ways(0, 3, 2), 0);
    Due.is("12 0: it is none of the empty set", x.ways(0, 0, 0), 0);
    Due.is("12 how many is 0 where there is no WAY", x.ways(0, 4, -1), 0);
    Due.is("12 NONE: no WAY, of one of the set", x.ways(0, 4, 2), NONE);
    Due.is("12 NONE: no WAY (c 0 and on), of another", x.ways(0, 4, 0), NONE);
  }

  private static void waysOfSome() {
    SeesawPark x = Due.parkOf("plank 1 3;child 1 1;child 2 1;child 1 1;child 4 1;stone 4;");
    Due.is("12 the empty set, LEVEL", x.ways(0, 0, -1), 1);
    Due.is("12 as many as SEATS", x.ways(0, 3, -1), 2);
    Due.is("12 one more than SEATS", x.ways(0, 7, -1), 0);
    Due.is("12 one more than SEATS, the first", x.ways(0, 7, 0), NONE);
    Due.is("12 each at a SEAT of its own: SLACK at most", x.ways(0, 8 | 1, -1), 2);
    Due.is("12 one alone beyond SLACK", x.ways(0, 8, -1), 0);
    x.lay(0, 0, 1);
    Due.is("12 the empty set, not LEVEL by STONES", x.ways(0, 0, -1), 0);
    Due.is("12 the empty set, not LEVEL: NONE", x.ways(0, 0, 3), NONE);
    Due.is("12 where a STONE is, a child can sit", x.ways(0, 1 | 8, 0), 1);
    x.sits(0, 0, -1);
    x.sits(1, 0, 1);
    Due.is("12 just these, nobody else there", x.ways(0, 1 | 8, -1), 1);
    Due.is("12 the one way", x.ways(0, 1 | 8, 3), -1);
    SeesawPark y = Due.parkOf("plank 4 20;plank 1 0;" + "child 1 1;".repeat(8));
    y.sits(5, 1, 1);
    int[] first = {-4, -3, -2, -1, 1, 2, 3, 4};
    Due.is("12 all 8 on all 8 SEATS", y.ways(0, 255, -1), 40320);
    for (int c = 0; c < 8; c++) Due.is("12 the least step first, then of the next one: " + c, y.ways(0, 255, c), first[c]);
    Due.is("12 the first, of some", y.ways(0, 128 | 4, 7), -3);
    for (int c : new int[] {0, 1, 3, 5, 6}) Due.is("12 0: it is none of these, though others are: " + c, y.ways(0, 128 | 4, c), 0);
    SeesawPark z = Due.parkOf("plank 2 0;child 1 1;child 1 1;child 2 1;");
    Due.is("12 each at a SEAT of its own: 1 and 1 at 1, 2 at -1 is no WAY", z.ways(0, 7, 0), NONE);
    SeesawPark w = Due.parkOf("plank 2 1;child 1 1;child 1 1;child 2 1;");
    int[] steps = {-2, -1, 1};
    for (int c = 0; c < 3; c++) Due.is("12 the first by the SEAT of the least child: " + c, w.ways(0, 7, c), steps[c]);
  }

  private static void most() {
    Due.range("13 a PLANK", Due::busy, 0, 1, BAD, (x, p) -> x.most(p, 0));
    Due.range("13 what (0, 1)", Due::busy, 0, 1, BAD, (x, what) -> x.most(0, what));
    Due.changesNothing("13 nothing is changed", Due::busy, 15, x -> x.most(0, 1));
    Due.changesNothing("13 STONES as they are: 20 against 20", Due::busy, 2, x -> x.most(1, 1));
    Due.changesNothing("13 nothing is changed: NONE", x -> {
      Due.busy(x);
      x.lay(0, 1, -1);
    }, NONE, x -> x.most(1, 0));
    SeesawPark none = Due.parkOf("plank 1 0;stone 1;");
    Due.is("13 no children: the empty one", none.most(0, 0), 0);
    Due.is("13 no children: no bits", none.most(0, 1), 0);
    none.lay(0, 0, 1);
    Due.is("13 NONE: not LEVEL by STONES alone", none.most(0, 0), NONE);
    Due.is("13 NONE: no set", none.most(0, 1), NONE);
    SeesawPark help = Due.parkOf("plank 1 0;child 2 1;child 1 1;stone 1;");
    help.lay(0, 0, 1);
    Due.is("13 not LEVEL by STONES alone, but by a set", help.most(0, 1), 3);
    SeesawPark apart = Due.parkOf("plank 1 0;child 2 1;child 1 1;");
    Due.is("13 the empty one, too", apart.most(0, 0), 0);
    Due.is("13 the empty one's bits", apart.most(0, 1), 0);
    SeesawPark eight = Due.parkOf("plank 1 0;plank 2 0;plank 3 0;" + "child 5 1;".repeat(8));
    eight.sits(0, 2, 1);
    for (int p = 0; p < 3; p++) {
      Due.is("13 no more than SEATS, of 8: " + p, eight.most(p, 0), 2 * p + 2);
      Due.is("13 of several the least bits: " + p, eight.most(p, 1), (1 << 2 * p + 2) - 1);
    }
    SeesawPark all = Due.parkOf("plank 4 0;" + "child 60 1;".repeat(8));
    Due.is("13 all 8, of the greatest WEIGHT", all.most(0, 0), 8);
    SeesawPark slack = Due.parkOf("plank 1 20;plank 1 19;child 20 1;child 40 1;");
    Due.is("13 SLACK at most", slack.most(0, 1), 3);
    Due.is("13 beyond SLACK", slack.most(1, 1), 0);
    SeesawPark stones = Due.parkOf("plank 4 20;" + "child 60 1;".repeat(8) + "stone 20;".repeat(4));
    for (int s = 0; s < 4; s++) stones.lay(s, 0, s + 1);
    // 200 by stones; 60 times at most 4 + 3 + 2 + 1 - 4 must come to 180 .. 220 on the left: 3 steps.
    Due.is("13 the farthest MOMENT of STONES", stones.most(0, 0), 7);
    Due.is("13 the farthest, the least bits", stones.most(0, 1), 127);
    for (int s = 0; s < 4; s++) stones.lay(s, 0, -s - 1);
    Due.is("13 the farthest MOMENT of STONES to the left", stones.most(0, 0), 7);
    Due.is("13 the farthest to the left, the least bits", stones.most(0, 1), 127);
  }

  private static void moves() {
    Due.range("14 a PLANK", Due::busy, 0, 1, BAD, (x, p) -> x.moves(p));
    Due.changesNothing("14 nothing is changed", Due::busy, 1, x -> x.moves(0));
    Due.changesNothing("14 nothing is changed: NONE", Due::busy, NONE, x -> x.moves(1));
    SeesawPark x = Due.parkOf("plank 1 2;plank 1 0;child 2 1;child 3 1;stone 2;stone 3;");
    Due.is("14 nobody there, LEVEL", x.moves(0), 0);
    x.lay(1, 0, 1);
    Due.is("14 nobody there, not LEVEL: NONE", x.moves(0), NONE);
    x.sits(0, 0, 1);
    Due.is("14 one, to the other side", x.moves(0), 1);
    x.take(1);
    Due.is("14 0: it is LEVEL, at SLACK", x.moves(0), 0);
    x.leaves(0);
    x.sits(1, 0, -1);
    Due.is("14 beyond SLACK to either side: NONE", x.moves(0), NONE);
    x.sits(1, 1, -1);
    Due.is("14 nobody is there any more", x.moves(0), 0);
    SeesawPark y = Due.parkOf("plank 1 0;plank 4 0;child 2 1;child 2 1;stone 2;");
    y.sits(0, 0, 1);
    Due.is("14 only who sit there: who sits nowhere is no help", y.moves(0), NONE);
    y.sits(1, 1, 1);
    Due.is("14 only who sit there: nor who sits elsewhere", y.moves(0), NONE);
    y.lay(0, 0, 1);
    Due.is("14 SEATS on it; to a SEAT where a STONE is not", y.moves(0), 1);
    y.lay(0, 0, -1);
    Due.is("14 LEVEL by the STONE", y.moves(0), 0);
    SeesawPark z = Due.parkOf("plank 4 0;" + "child 1 1;".repeat(7) + "child 3 1;");
    for (int c = 0; c < 8; c++) z.sits(c, 0, c < 4 ? c - 4 : c - 3);
    Due.is("14 all 8 SEATS taken: NONE, whoever changes", z.moves(0), NONE);
    SeesawPark v = Due.parkOf("plank 4 2;" + "child 1 1;".repeat(7) + "child 3 1;");
    for (int c = 0; c < 8; c++) v.sits(c, 0, c < 4 ? c - 4 : c - 3);
    Due.is("14 all 8 SEATS taken: two change with one another", v.moves(0), 2);
    SeesawPark u = Due.parkOf("plank 2 0;child 1 1;child 2 1;child 3 1;stone 1;");
    u.lay(0, 0, 1);
    u.sits(0, 0, -1);
    u.sits(1, 0, 1);
    u.sits(2, 0, 2);
    // a + 2 b + 3 c must be -1: -2, 2, -1 or 1, 2, -2, for -1, 1, 2 now.
    Due.is("14 all who sit there change", u.moves(0), 3);
    SeesawPark w = Due.parkOf("plank 1 1;child 5 1;child 3 1;child 4 1;");
    w.sits(0, 0, 1);
    w.sits(1, 0, -1);
    Due.is("14 no change of SEATS helps", w.moves(0), NONE);
  }

  private static void ballast() {
    Due.range("15 a PLANK", Due::busy, 0, 1, BAD, (x, p) -> x.ballast(p, 0));
    Due.range("15 what (0, 1)", Due::busy, 0, 1, BAD, (x, what) -> x.ballast(0, what));
    Due.changesNothing("15 nothing is changed: NONE", Due::busy, NONE, x -> x.ballast(0, 0));
    Due.changesNothing("15 nothing is changed: 3 less 4", x -> {
      Due.busy(x);
      x.take(0);
    }, 1, x -> x.ballast(0, 1));
    SeesawPark none = Due.parkOf("plank 1 3;child 3 1;child 4 1;");
    none.sits(0, 0, 1);
    Due.is("15 0: it is, at SLACK", none.ballast(0, 0), 0);
    Due.is("15 0: no bits", none.ballast(0, 1), 0);
    none.leaves(0);
    none.sits(1, 0, -1);
    Due.is("15 no STONES at all: NONE", none.ballast(0, 0), NONE);
    Due.is("15 no STONES at all: no set", none.ballast(0, 1), NONE);
    SeesawPark five = Due.parkOf("plank 4 0;child 60 1;stone 14;stone 13;stone 12;stone 11;stone 2;");
    five.sits(0, 0, 2);
    // Three come to 4 * 14 + 3 * 13 + 2 * 12 = 119 at most; 4 * 11 + 3 * 12 + 2 * 13 + 14 = 120.
    Due.is("15 the fewest: four", five.ballast(0, 0), 4);
    Due.is("15 the fewest: their set", five.ballast(0, 1), 15);
    SeesawPark all = Due.parkOf("plank 4 0;child 60 1;child 19 1;stone 20;stone 20;stone 20;stone 20;stone 1;");
    all.sits(0, 0, 3);
    all.sits(1, 0, 1);
    // 199: the four on the left make 200, and 1 at 1 makes up for it.
    Due.is("15 all five", all.ballast(0, 0), 5);
    Due.is("15 all five: their set", all.ballast(0, 1), 31);
    all.sits(0, 0, 4);
    Due.is("15 all five are not enough: NONE", all.ballast(0, 0), NONE);
    SeesawPark least = Due.parkOf("plank 1 0;plank 1 0;child 3 1;stone 3;stone 4;stone 3;stone 1;");
    least.sits(0, 0, 1);
    Due.is("15 of several the least set", least.ballast(0, 1), 1);
    least.lay(0, 1, 1);
    Due.is("15 STONES that are nowhere: not one that is laid elsewhere", least.ballast(0, 1), 4);
    least.lay(2, 1, -1);
    Due.is("15 two: one to each side", least.ballast(0, 1), 2 | 8);
    least.lay(1, 0, 1);
    Due.is("15 SEATS without a STONE: one is left, too few", least.ballast(0, 0), NONE);
    least.lay(3, 0, -1);
    Due.is("15 SEATS without a STONE: none is left", least.ballast(0, 0), NONE);
    least.sits(0, 0, -1);
    Due.is("15 no SEAT is left, but it is LEVEL", least.ballast(0, 0), 0);
    SeesawPark few = Due.parkOf("plank 2 0;child 5 1;stone 1;stone 2;stone 5;");
    few.sits(0, 0, 1);
    // 1 at -1 and 2 at -2 are a lesser set, but two.
    Due.is("15 the fewest ahead of the least set", few.ballast(0, 1), 4);
    SeesawPark under = Due.parkOf("plank 1 0;child 2 1;child 1 1;stone 1;");
    under.sits(0, 0, 1);
    under.sits(1, 0, -1);
    Due.is("15 a STONE where a child sits", under.ballast(0, 1), 1);
  }

  private static void game() {
    Due.History h = Due.told("plank 4 20;plank 1 0;" + "child 1 1;".repeat(4) + "stone 20;stone 1;");
    Due.range("16 a PLANK", h, 0, 1, BAD, (x, p) -> x.game(p, 0));
    Due.range("16 what (0, 1)", h, 0, 1, BAD, (x, what) -> x.game(0, what));
    Due.changesNothing("16 nothing is changed: lost", h, 0, x -> x.game(0, 0));
    Due.changesNothing("16 nothing is changed: NONE", h, NONE, x -> x.game(0, 1));
    Due.History five = Due.told("plank 4 20;plank 1 0;" + "child 1 1;".repeat(5));
    Due.changesNothing("16 STATE: more than 4 children sit nowhere", five, STATE, x -> x.game(0, 0));
    Due.changesNothing("16 STATE, whatever is asked", five, STATE, x -> x.game(0, 1));
    Due.changesNothing("16 BAD ahead of STATE: what", five, BAD, x -> x.game(0, 2));
    Due.changesNothing("16 BAD ahead of STATE: no such PLANK", five, BAD, x -> x.game(2, 0));
    Due.changesNothing("16 all 8 sit nowhere", Due.told("plank 4 20;" + "child 1 1;".repeat(8)), STATE, x -> x.game(0, 0));
    Due.changesNothing("16 4 sit nowhere, the fifth elsewhere", x -> {
      five.on(x);
      x.sits(0, 1, 1);
    }, 0, x -> x.game(0, 0));
    Due.changesNothing("16 STATE: it is not LEVEL now", x -> {
      five.on(x);
      x.sits(0, 1, 1);
    }, STATE, x -> x.game(1, 0));
    for (int side = -1; side <= 1; side += 2) {
      int step = side;
      Due.changesNothing("16 LEVEL now, at SLACK, side " + side, x -> {
        h.on(x);
        x.lay(0, 0, step);
      }, 0, x -> x.game(0, 0));
      Due.changesNothing("16 STATE: one beyond SLACK, side " + side, x -> {
        h.on(x);
        x.lay(0, 0, step);
        x.sits(0, 0, step);
      }, STATE, x -> x.game(0, 0));
    }
    gameEnds();
  }

  /** What would be there at a step beyond HALF is no SEAT, and at HALF it is one. */
  private static void seatsOfPlank() {
    for (int half = 1; half <= 4; half++) {
      String at = ": SEATS at steps to HALF " + half;
      SeesawPark x = Due.parkOf("plank " + half + " 0;child " + half + " 1;child 1 1;child " + (half + 1) + " 1;stone 1;");
      Due.is("12 the farthest" + at, x.ways(0, 3, -1), 2);
      Due.is("12 one beyond" + at, x.ways(0, 6, -1), 0);
      x.sits(0, 0, 1);
      Due.is("15 the farthest on the left" + at, x.ballast(0, 1), 1);
      x.sits(0, 0, -1);
      Due.is("15 the farthest on the right" + at, x.ballast(0, 1), 1);
      x.sits(2, 0, 1);
      x.leaves(0);
      Due.is("15 one beyond on the left" + at, x.ballast(0, 0), NONE);
      x.sits(2, 0, -1);
      Due.is("15 one beyond on the right" + at, x.ballast(0, 0), NONE);
      x.sits(1, 0, -half == -1 ? 1 : -half);
      Due.is("14 one beyond" + at, x.moves(0), NONE);
      SeesawPark y = Due.parkOf("plank " + half + " 0;child " + half + " 1;child 1 1;");
      Due.is("13 the farthest" + at, y.most(0, 1), 3);
      y.sits(0, 0, 1);
      y.sits(1, 0, half == 1 ? -1 : half);
      Due.is("14 the farthest" + at, y.moves(0), half == 1 ? 0 : 1);
      SeesawPark z = Due.parkOf("plank " + half + " 0;child " + (half + 1) + " 1;child 1 1;");
      Due.is("13 one beyond" + at, z.most(0, 0), 0);
      SeesawPark w = Due.parkOf("plank " + half + " 20;" + "child 1 1;".repeat(Math.min(8, 2 * half + 1)));
      for (int c = 0; c < 2 * half - 2; c++) w.sits(c, 0, c / 2 + 1 - c % 2 * (c / 2 + 1) * 2);
      Due.is("16 two SEATS are left" + at, w.game(0, 0), 0);
      w.sits(2 * half - 2, 0, -half);
      Due.is("16 the last SEAT is left" + at, w.game(0, 1), 100 * (2 * half - 1) + half + 4);
    }
    for (int weight = 1; weight <= 60; weight++) {
      SeesawPark x = Due.parkOf("plank 4 0;plank 1 0;child " + weight + " 1;child " + weight + " 1;");
      Due.is("13 two alike, WEIGHT " + weight, x.most(0, 1) + x.most(1, 1), 6);
      SeesawPark y = Due.parkOf("plank 4 0;child " + weight + " 1;");
      Due.is("13 one alone, WEIGHT " + weight, y.most(0, 0), 0);
    }
  }

  private static void gameEnds() {
    SeesawPark nobody = Due.parkOf("plank 1 0;");
    Due.is("16 nobody to seat: who can not, loses", nobody.game(0, 0), 0);
    Due.is("16 nobody to seat: NONE", nobody.game(0, 1), NONE);
    SeesawPark full = Due.parkOf("plank 1 0;" + "child 1 1;".repeat(3));
    full.sits(0, 0, -1);
    full.sits(1, 0, 1);
    Due.is("16 no SEAT without a child", full.game(0, 0), 0);
    Due.is("16 no SEAT without a child: NONE", full.game(0, 1), NONE);
    SeesawPark one = Due.parkOf("plank 4 4;child 1 1;");
    Due.is("16 one move: WON", one.game(0, 0), 1);
    Due.is("16 the least move: child 0, step -4", one.game(0, 1), 0);
    SeesawPark last = Due.parkOf("plank 4 20;" + "child 1 1;".repeat(8));
    for (int c = 0; c < 7; c++) last.sits(c, 0, c < 4 ? c - 4 : c - 3);
    Due.is("16 the greatest move: child 7, step 4", last.game(0, 1), 708);
    SeesawPark edge = Due.parkOf("plank 1 4;child 5 1;child 4 1;");
    Due.is("16 so that it is LEVEL: 4 is, then 5 less 4, too", edge.game(0, 1), NONE);
    SeesawPark only = Due.parkOf("plank 1 4;child 9 1;child 4 1;");
    Due.is("16 so that it is LEVEL: 9 less 4 is beyond", only.game(0, 1), 103);
    SeesawPark seats = Due.parkOf("plank 1 20;child 1 1;child 1 1;child 1 1;");
    Due.is("16 a SEAT of it without a child: two moves, then none", seats.game(0, 0), 0);
    SeesawPark more = Due.parkOf("plank 2 20;child 1 1;child 1 1;child 1 1;");
    Due.is("16 SEATS for all three: WON", more.game(0, 0), 1);
    Due.is("16 by children, then steps", more.game(0, 1), 2);
    SeesawPark second = Due.parkOf("plank 1 3;child 2 1;child 5 1;stone 1;");
    second.lay(0, 0, -1);
    // 2 at -1: -3, and 5 at 1 is 2: lost. 2 at 1: 1, and 5 at -1 is -4: won.
    Due.is("16 the first move that wins, not the first", second.game(0, 1), 5);
    SeesawPark stone = Due.parkOf("plank 1 0;child 1 1;stone 1;stone 1;");
    stone.lay(0, 0, 1);
    stone.lay(1, 0, -1);
    Due.is("16 a SEAT with a STONE takes a child; none keeps it LEVEL", stone.game(0, 0), 0);
  }

  // ---- strangers, rides

  private static void strangers() {
    Due.range("17 so many (2 .. 5)", Due::busy, 2, 5, BAD, (x, n) -> x.strangers(n));
    SeesawPark x = new SeesawPark();
    Due.is("17 how many they were: 2 at first", x.strangers(5), 2);
    Due.is("17 how many they were", x.strangers(2), 5);
    Due.is("17 so many", x.count(4), 2);
    for (int t = 0; t < 12; t++) x.trial(0, 1, 0);
    Due.is("17 12 TRIALS, before", x.could(-1, 1), 6);
    Due.is("17 as many as they were", x.strangers(2), 2);
    Due.is("17 no TRIALS", x.count(3), 0);
    Due.is("17 no TRIALS: all COULD be", x.could(-1, 1), 36);
    for (int t = 1; t <= 12; t++) Due.is("17 no TRIALS: 12 more", x.trial(0, 1, 0), t);
    SeesawPark y = new SeesawPark();
    Due.busy(y);
    y.strangers(5);
    Due.is("17 nothing else: who sits", y.count(6), 4);
    Due.is("17 nothing else: IMAGES", y.back(1), 3);
  }

  private static void trial() {
    Due.range("18 a", Due::busy, 0, 1, BAD, (x, a) -> x.trial(a, 2, 0));
    Due.range("18 b", Due::busy, 1, 2, BAD, (x, b) -> x.trial(0, b, 0));
    Due.range("18 r (-1 .. 1)", Due::busy, -1, 1, BAD, (x, r) -> x.trial(0, 1, r));
    for (int n = 2; n <= 5; n++) {
      int many = n;
      Due.History h = x -> x.strangers(many);
      Due.changesNothing("18 a: no such STRANGER of " + n, h, BAD, x -> x.trial(many, 0, 0));
      Due.changesNothing("18 b: no such STRANGER of " + n, h, BAD, x -> x.trial(0, many, 0));
      for (int a = 0; a < n; a++) {
        int one = a;
        Due.changesNothing("18 a, b unlike: " + a, h, BAD, x -> x.trial(one, one, 0));
      }
      SeesawPark x = new SeesawPark();
      x.strangers(n);
      Due.is("18 the last two of " + n, x.trial(n - 1, n - 2, 1), 1);
    }
    Due.History eleven = x -> {
      for (int t = 0; t < 11; t++) x.trial(0, 1, -1);
    };
    SeesawPark x = new SeesawPark();
    eleven.on(x);
    Due.is("18 TRIALS (12 at most): the twelfth", x.trial(1, 0, 1), 12);
    Due.History twelve = y -> {
      eleven.on(y);
      y.trial(1, 0, 1);
    };
    Due.changesNothing("18 FULL: the thirteenth", twelve, FULL, y -> y.trial(0, 1, 0));
    Due.changesNothing("18 FULL: though it is one of these", twelve, FULL, y -> y.trial(0, 1, -1));
    Due.changesNothing("18 BAD ahead of FULL: a", twelve, BAD, y -> y.trial(2, 1, 0));
    Due.changesNothing("18 BAD ahead of FULL: b", twelve, BAD, y -> y.trial(0, -1, 0));
    Due.changesNothing("18 BAD ahead of FULL: alike", twelve, BAD, y -> y.trial(1, 1, 0));
    Due.changesNothing("18 BAD ahead of FULL: r", twelve, BAD, y -> y.trial(0, 1, 2));
    int[][] left = {{15, 0, 5}, {6, 1, 1}, {15, 5, 0}};
    for (int r = -1; r <= 1; r++) {
      SeesawPark y = new SeesawPark();
      y.trial(0, 1, r);
      Due.is("18 r " + r + ": all that COULD be", y.could(-1, 1), left[r + 1][0]);
      Due.is("18 r " + r + ": 0 with WEIGHT 1", y.could(0, 1), left[r + 1][1]);
      Due.is("18 r " + r + ": 0 with WEIGHT 6", y.could(0, 6), left[r + 1][2]);
    }
  }

  private static void could() {
    Due.range("19 a = -1, or one", Due::busy, -1, 2, BAD, (x, a) -> x.could(a, 1));
    Due.range("19 w 1 .. 6", Due::busy, 1, 6, BAD, (x, w) -> x.could(0, w));
    Due.range("19 w 1 .. 6, whatever a", Due::busy, 1, 6, BAD, (x, w) -> x.could(-1, w));
    int all = 6;
    for (int n = 2; n <= 5; n++) {
      all *= 6;
      SeesawPark x = new SeesawPark();
      x.strangers(n);
      for (int w = 1; w <= 6; w++) {
        Due.is("19 how many, w " + w + " is the same", x.could(-1, w), all);
        Due.is("19 with a WEIGHT " + w + " of the last of " + n, x.could(n - 1, w), all / 6);
      }
    }
    SeesawPark x = new SeesawPark();
    Due.is("19 fit all TRIALS: of none", x.could(-1, 1), 36);
    Due.is("19 with a WEIGHT, fit all TRIALS: of none", x.could(0, 1), 6);
    x.trial(0, 1, 0);
    Due.is("19 fit all TRIALS: of one", x.could(-1, 1), 6);
    Due.is("19 with a WEIGHT, fit all TRIALS: of one", x.could(0, 1), 1);
    x.trial(0, 1, 1);
    Due.is("19 fit all TRIALS: none", x.could(-1, 1), 0);
    for (int w = 1; w <= 6; w++) Due.is("19 fit all TRIALS: none with " + w, x.could(0, w), 0);
    Due.changesNothing("19 nothing changes by asking", Due::busy, 15, y -> y.could(-1, 6));
  }

  private static void sure() {
    Due.range("20 one of 3", Due::busy, 0, 2, BAD, (x, a) -> x.sure(a));
    for (int n = 2; n <= 5; n++) {
      int many = n;
      Due.range("20 one of " + n, x -> x.strangers(many), 0, n - 1, BAD, (x, a) -> x.sure(a));
    }
    SeesawPark x = new SeesawPark();
    x.strangers(5);
    for (int a = 0; a < 5; a++) Due.is("20 NONE: each WEIGHT can be", x.sure(a), NONE);
    for (int a = 0; a < 4; a++) x.trial(a, a + 1, 1);
    for (int a = 0; a < 5; a++) {
      Due.is("20 two are left, the lower", x.could(a, a + 1) > 0 ? 1 : 0, 1);
      Due.is("20 two are left, the higher", x.could(a, a + 2) > 0 ? 1 : 0, 1);
      Due.is("20 NONE: two can be", x.sure(a), NONE);
    }
    x.trial(0, 1, 0);
    for (int a = 0; a < 5; a++) Due.is("20 NONE: none can be", x.sure(a), NONE);
    Due.changesNothing("20 nothing changes by asking", Due::busy, NONE, y -> y.sure(0));
  }

  private static void next() {
    Due.range("21 what (0, 1)", Due::busy, 0, 1, BAD, (x, what) -> x.next(what));
    int[] left = {15, 90, 540, 3240};
    for (int n = 2; n <= 5; n++) {
      SeesawPark x = new SeesawPark();
      x.strangers(n);
      Due.is("21 of several the first, of " + n, x.next(0), 1);
      Due.is("21 that many, of " + n, x.next(1), left[n - 2]);
    }
    SeesawPark x = new SeesawPark();
    x.strangers(5);
    x.trial(0, 1, 0);
    x.trial(1, 2, 0);
    x.trial(2, 3, -1);
    x.trial(2, 4, -1);
    Due.is("21 the last pair (A below B)", x.next(0), 34);
    Due.is("21 the last pair: that many", x.next(1), 20);
    x.trial(3, 4, 0);
    Due.is("21 all that is left is left by any", x.next(1), 15);
    Due.is("21 all alike: the first", x.next(0), 1);
    x.trial(4, 3, 1);
    Due.is("21 none fits: the first pair", x.next(0), 1);
    Due.is("21 none fits: 0 are left", x.next(1), 0);
    SeesawPark z = new SeesawPark();
    z.strangers(4);
    z.trial(0, 2, 1);
    z.trial(0, 3, 1);
    // (0, 1) leaves 225 at worst, (1, 2) 190, (2, 3) 120.
    Due.is("21 the fewest at worst: the pair", z.next(0), 23);
    Due.is("21 the fewest at worst: that many", z.next(1), 120);
    SeesawPark w = new SeesawPark();
    w.strangers(5);
    w.trial(0, 2, 1);
    w.trial(0, 4, 1);
    // (0, 1) leaves 1350 at worst, (1, 2) 1140, (1, 3) 825, (2, 4) 720.
    Due.is("21 the fewest at worst, of five: the pair", w.next(0), 24);
    Due.is("21 the fewest at worst, of five: that many", w.next(1), 720);
    SeesawPark v = new SeesawPark();
    v.strangers(4);
    v.trial(0, 1, -1);
    v.trial(0, 3, -1);
    // (0, 1) leaves 330 at worst, (0, 2) 225, (1, 2) 190, (1, 3) 120.
    Due.is("21 the fewest at worst, each fewer than the last: the pair", v.next(0), 13);
    Due.is("21 the fewest at worst, each fewer than the last: that many", v.next(1), 120);
    // At worst: 15 of 15 if (0, 1) is tried again, whichever of the three outcomes it was.
    for (int r = -1; r <= 1; r++) {
      SeesawPark y = new SeesawPark();
      y.trial(0, 1, r);
      Due.is("21 whatever comes of it, at worst: r " + r, y.next(1), r == 0 ? 6 : 15);
    }
    Due.changesNothing("21 nothing changes by asking", Due::busy, 1, y -> y.next(0));
  }

  private static void rides() {
    Due.range("22 minutes (0 .. 99)", Due::busy, 0, 99, BAD, (x, minutes) -> x.rides(minutes, -1));
    Due.range("22 minutes (0 .. 99), of a child", Due::busy, 0, 99, BAD, (x, minutes) -> x.rides(minutes, 0));
    Due.range("22 c = -1, or a child", Due::busy, -1, 3, BAD, (x, c) -> x.rides(5, c));
    Due.range("22 c, of 8 children", Due.told("child 1 1;".repeat(8)), -1, 7, BAD, (x, c) -> x.rides(99, c));
    Due.changesNothing("22 nothing changes by asking", Due::busy, 4, x -> x.rides(99, -1));
    SeesawPark none = Due.parkOf("child 5 1;child 5 1;");
    Due.is("22 no PLANKS: all wait", none.rides(99, -1), 2);
    Due.is("22 no PLANKS: nobody rides", none.rides(99, 0), 0);
    Due.is("22 no children: nobody waits", Due.parkOf("plank 1 0;").rides(99, -1), 0);
    SeesawPark alone = Due.parkOf("plank 1 20;child 5 1;");
    Due.is("22 one alone waits", alone.rides(99, -1), 1);
    Due.is("22 one alone does not ride", alone.rides(99, 0), 0);
    for (int slack = 0; slack <= 20; slack += 5) {
      for (int apart = Math.max(0, slack - 1); apart <= slack + 1; apart++) {
        String sentence = "22 two FIT, if their WEIGHTS differ by SLACK at most; " + slack + ", apart " + apart;
        SeesawPark x = Due.parkOf("plank 1 " + slack + ";child " + (9 + apart) + " 2;child 9 2;");
        Due.is(sentence, x.rides(1, 0), apart <= slack ? 1 : 0);
        SeesawPark y = Due.parkOf("plank 1 " + slack + ";child 9 2;child " + (9 + apart) + " 2;");
        Due.is(sentence + ", the other is heavier", y.rides(1, -1), apart <= slack ? 0 : 2);
      }
    }
  }

  private static void ridesByMinutes() {
    for (int wish = 1; wish <= 30; wish++) {
      SeesawPark x = Due.parkOf("plank 1 0;child 9 " + wish + ";child 9 30;");
      Due.is("22 behind 0 minutes: nobody has ridden", x.rides(0, 0), 0);
      Due.is("22 behind 0 minutes: all wait", x.rides(0, -1), 2);
      Due.is("22 ridden its WISH, WISH " + wish, x.rides(wish, 0), wish);
      Due.is("22 both ride still at the end of that minute", x.rides(wish, -1), 0);
      Due.is("22 both leave in the next", x.rides(wish + 1, 0), wish);
      Due.is("22 the other, too", x.rides(wish + 1, 1), wish);
      Due.is("22 who has more to ride waits again, WISH " + wish, x.rides(wish + 1, -1), wish < 30 ? 1 : 0);
      Due.is("22 who has ridden its WISH does not", x.rides(99, -1), wish < 30 ? 1 : 0);
    }
    SeesawPark front = Due.parkOf("plank 1 0;child 9 3;child 9 1;");
    Due.is("22 who has more to ride waits again, the first of the two", front.rides(2, -1), 1);
    SeesawPark row = Due.parkOf("plank 1 0;child 9 1;child 9 5;child 9 5;child 9 5;");
    Due.is("22 all wait in a row, by numbers", row.rides(1, 1), 1);
    Due.is("22 the row's end: the next two ride", row.rides(2, 3), 1);
    Due.is("22 waits again, at the row's end", row.rides(2, 1), 1);
    SeesawPark first = Due.parkOf("plank 1 0;child 7 9;child 8 9;child 9 9;child 9 9;child 8 9;child 9 9;");
    int[] due = {0, 1, 0, 0, 1, 0};
    for (int c = 0; c < 6; c++) Due.is("22 the first of the row that FITS with one behind it, and the first of these: " + c, first.rides(1, c), due[c]);
    SeesawPark planks = Due.parkOf("plank 1 0;plank 1 0;plank 1 1;child 7 1;child 8 1;child 8 1;child 9 1;child 9 1;child 6 1;");
    Due.is("22 PLANK by PLANK: all ride at once", planks.rides(1, -1), 0);
    Due.is("22 PLANK by PLANK: the last PLANK's two", planks.rides(1, 0) + planks.rides(1, 5), 2);
    SeesawPark again = Due.parkOf("plank 1 0;child 9 1;child 9 2;child 9 1;");
    Due.is("22 rides again in the minute in which it left", again.rides(2, 1), 2);
    Due.is("22 with who waited", again.rides(2, 2), 1);
    SeesawPark last = Due.parkOf("plank 1 20;" + "child 9 30;".repeat(8));
    Due.is("22 behind 90 minutes", last.rides(90, 6), 0);
    Due.is("22 behind 91 minutes", last.rides(91, 6), 1);
    Due.is("22 behind 98 minutes", last.rides(98, 7), 8);
    Due.is("22 behind 99 minutes", last.rides(99, 7), 9);
    Due.is("22 behind 99 minutes, the first", last.rides(99, 0), 30);
    SeesawPark seated = Due.parkOf("plank 1 0;child 9 1;child 9 1;");
    seated.sits(0, 0, 1);
    seated.sits(1, 0, -1);
    Due.is("22 all children wait, where they sit or not", seated.rides(0, -1), 2);
    Due.is("22 all children ride, where they sit or not", seated.rides(1, 0), 1);
  }

  private static void forever() {
    Due.changesNothing("23 nothing changes by asking", Due::busy, 15, x -> x.forever());
    Due.is("23 no children", Due.parkOf("plank 1 20;").forever(), 0);
    Due.is("23 one child: no other", Due.parkOf("plank 1 20;child 1 1;").forever(), 1);
    Due.is("23 no PLANK", Due.parkOf("child 1 1;".repeat(8)).forever(), 255);
    Due.is("23 all 8 FIT", Due.parkOf("plank 1 0;" + "child 1 1;".repeat(8)).forever(), 0);
    Due.is("23 the eighth FITS none", Due.parkOf("plank 1 20;" + "child 1 1;".repeat(7) + "child 22 1;").forever(), 128);
    Due.is("23 the eighth FITS at SLACK", Due.parkOf("plank 1 20;" + "child 1 1;".repeat(7) + "child 21 1;").forever(), 0);
    Due.is("23 the first FITS none", Due.parkOf("plank 1 20;child 60 1;" + "child 1 1;".repeat(7)).forever(), 1);
    Due.is("23 FITS no PLANK: one of three is enough", Due.parkOf("plank 1 0;plank 1 1;plank 1 2;child 7 1;child 9 1;").forever(), 0);
    Due.is("23 FITS no PLANK", Due.parkOf("plank 1 0;plank 1 1;plank 1 2;child 7 1;child 10 1;").forever(), 3);
  }

  // ---- kinds, images

  private static void rate() {
    Due.range("24 a KIND (0 .. 5)", Due::busy, 0, 5, NO, (x, kind) -> x.rate(kind, 0));
    Due.range("24 a child", Due::busy, 0, 3, NO, (x, c) -> x.rate(3, c));
    Due.range("24 the last of 8 children", Due.told("child 1 1;".repeat(8)), 0, 7, NO, (x, c) -> x.rate(5, c));
    SeesawPark x = Due.parkOf("plank 4 0;" + "child 1 1;".repeat(7) + "child 1 30;");
    Due.is("24 SHY up less its step (0: it sits nowhere)", x.rate(2, 7), 1);
    Due.is("24 HEAVY up less its number: below 0", x.rate(5, 7), -6);
    Due.is("24 HEAVY up less its number: 0", x.rate(5, 0), 1);
    x.sits(7, 0, 4);
    Due.is("24 SHY up less its step: below 0", x.rate(2, 7), -3);
    Due.is("24 CLINGER up, and its WISH", x.rate(4, 7), 27);
    Due.is("24 BOLD up, and how often it was BUMPED", x.rate(1, 7), 2);
    Due.is("24 ROCKER twice up", x.rate(3, 7), 4);
    x.sits(7, 0, -4);
    Due.is("24 SHY up less its step, on the left", x.rate(2, 7), 5);
    x.leaves(7);
    Due.is("24 SHY, once it left", x.rate(2, 7), 1);
    Due.is("24 BOLD, once it left", x.rate(1, 7), 3);
    SeesawPark y = Due.parkOf("child 60 30;");
    int[] due = {60, 60, 60, 120, 90, 60};
    for (int kind = 0; kind < 6; kind++) Due.is("24 of the greatest WEIGHT and WISH, KIND " + kind, y.rate(kind, 0), due[kind]);
  }

  private static void keep() {
    Due.range("25 an IMAGE (0, 1)", Due::busy, 0, 1, BAD, (x, image) -> x.keep(image));
    SeesawPark x = new SeesawPark();
    Due.is("25 without children: nobody sits", x.keep(0), 0);
    Due.is("26 an IMAGE of nothing was kept", x.back(0), 0);
    Due.is("26 STATE: the other was not", x.back(1), STATE);
    SeesawPark y = Due.parkOf("plank 4 20;" + "child 1 1;".repeat(8));
    for (int c = 0; c < 8; c++) y.sits(c, 0, c < 4 ? c - 4 : c - 3);
    Due.is("25 how many children sit: all", y.keep(1), 8);
    y.leaves(0);
    Due.is("25 kept again: how many children sit", y.keep(1), 7);
    y.sits(0, 0, -4);
    Due.is("26 as it was kept last", y.back(1), 7);
    SeesawPark z = new SeesawPark();
    Due.busy(z);
    Due.is("25 nothing else changes: who sits", z.keep(0), 4);
    Due.is("25 nothing else changes: the other IMAGE", z.back(1), 3);
  }

  private static void back() {
    Due.range("26 an IMAGE (0, 1)", Due::busy, 0, 1, BAD, (x, image) -> x.back(image));
    for (int image = 0; image < 2; image++) {
      int asked = image;
      Due.changesNothing("26 STATE: none was kept, IMAGE " + image, x -> {
        Due.told("plank 1 0;child 1 1;stone 1;").on(x);
        x.keep(1 - asked);
        x.sits(0, 0, 1);
        x.lay(0, 0, 1);
      }, STATE, x -> x.back(asked));
    }
    for (int image : new int[] {-1, 2, Due.LEAST, Due.GREATEST}) Due.changesNothing("26 BAD, not STATE: IMAGE " + image, EdgesTest::nothing, BAD, x -> x.back(image));
    SeesawPark x = new SeesawPark();
    Due.busy(x);
    Due.is("26 how many children sit, IMAGE 0", x.back(0), 1);
    Due.is("26 who is where", x.child(0, 3), -2);
    Due.is("26 who was nowhere", x.child(1, 2), NONE);
    Due.is("26 who was BUMPED how often", x.child(0, 4), 1);
    Due.is("26 who was not BUMPED yet", x.child(2, 4), 0);
    Due.is("26 what is where", x.stone(1, 1), 1);
    Due.is("26 what was nowhere", x.stone(0, 1), NONE);
    Due.is("26 nothing else: TRIALS", x.count(3), 2);
    Due.is("26 nothing else: STRANGERS", x.count(4), 3);
    Due.is("26 nothing else: THE TEXT", x.count(5), 28);
    Due.is("26 nothing else: THE TRACE", x.trace(), 1011);
    Due.is("26 as often as one likes", x.back(0), 1);
    Due.is("26 the other IMAGE stays", x.back(1), 3);
    Due.is("26 nobody is BUMPED by it", x.child(1, 4), 1);
    SeesawPark y = Due.parkOf("plank 1 0;plank 1 0;child 1 1;stone 1;");
    y.sits(0, 1, 1);
    y.lay(0, 1, -1);
    y.keep(1);
    y.sits(0, 0, 1);
    y.lay(0, 0, -1);
    y.back(1);
    Due.is("26 who is where: its PLANK", y.child(0, 2), 1);
    Due.is("26 what is where: its PLANK", y.stone(0, 1), 1);
  }

  private static void count() {
    Due.range("27 what (0 .. 6)", Due::busy, 0, 6, BAD, (x, what) -> x.count(what));
    int[] due = {2, 4, 2, 2, 3, 28, 4};
    for (int what = 0; what < 7; what++) {
      int asked = what;
      Due.changesNothing("27 nothing changes by asking, what " + what, Due::busy, due[what], x -> x.count(asked));
    }
    SeesawPark x = Due.parkOf("plank 4 20;".repeat(3) + "child 1 1;".repeat(8) + "stone 1;".repeat(5));
    x.strangers(5);
    for (int t = 0; t < 12; t++) x.trial(0, 1, 0);
    Due.type(x, " ".repeat(300));
    for (int c = 0; c < 8; c++) x.sits(c, c % 3, c < 4 ? c - 4 : c - 3);
    int[] most = {3, 8, 5, 12, 5, 300, 8};
    for (int what = 0; what < 7; what++) Due.is("27 the most there may be, what " + what, x.count(what), most[what]);
  }

  private static void trace() {
    Due.changesNothing("28 nothing changes by asking", Due::busy, 1011, x -> x.trace());
    SeesawPark x = Due.parkOf("child 1 1;");
    long due = 0;
    long[] more = {1, 11, 101, 1011, 10101, 100001};
    for (int kind = 0; kind < 6; kind++) {
      x.rate(kind, 0);
      due += more[kind];
      Due.is("28 THE TRACE behind KIND " + kind, x.trace(), due);
    }
    x.rate(6, 0);
    x.rate(-1, 0);
    x.rate(3, 1);
    x.rate(3, -1);
    Due.is("28 THE TRACE, where rate() is refused", x.trace(), due);
    SeesawPark y = Due.parkOf("child 1 1;");
    for (int call = 0; call < 480; call++) y.rate(5, 0);
    Due.is("28 THE TRACE of many calls", y.trace(), 480L * 100001);
  }
}
