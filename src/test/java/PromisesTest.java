/** Each promise of the document: ordinary inputs, the edges that it names, wrong inputs. */
public final class PromisesTest {
  private static final int BAD = -1, STATE = -2, FULL = -3, NONE = -9, NO = -1000000;
  private static final int LEAST = Integer.MIN_VALUE, GREATEST = Integer.MAX_VALUE;

  public static void main(String[] args) {
    newObject();
    type();
    clear();
    parkReads();
    parkFaults();
    parkChanges();
    plank();
    child();
    stone();
    sits();
    leaves();
    lay();
    take();
    ways();
    most();
    moves();
    ballast();
    game();
    strangers();
    trial();
    could();
    sure();
    next();
    rides();
    forever();
    rate();
    images();
    count();
    trace();
    Due.end();
  }

  private static void newObject() {
    SeesawPark x = new SeesawPark();
    int[] counts = {0, 0, 0, 0, 2, 0, 0};
    for (int what = 0; what < counts.length; what++) Due.is("1 count(" + what + ")", x.count(what), counts[what]);
    Due.is("1 trace()", x.trace(), 0);
    Due.is("1 plank", x.plank(0, 0), NO);
    Due.is("1 child", x.child(0, 0), NO);
    Due.is("1 stone", x.stone(0, 0), NO);
    Due.is("1 sits", x.sits(0, 0, 1), BAD);
    Due.is("1 back(0)", x.back(0), STATE);
    Due.is("1 back(1)", x.back(1), STATE);
    Due.is("1 could", x.could(-1, 1), 36);
    Due.is("1 BAD", SeesawPark.BAD, -1);
    Due.is("1 STATE", SeesawPark.STATE, -2);
    Due.is("1 FULL", SeesawPark.FULL, -3);
    Due.is("1 NONE", SeesawPark.NONE, -9);
    Due.is("1 NO", SeesawPark.NO, -1000000);
  }

  private static void type() {
    SeesawPark x = new SeesawPark();
    Due.is("2 n 0", x.type(32, 0), BAD);
    Due.is("2 n 9", x.type(32, 9), BAD);
    Due.is("2 n -1", x.type(32, -1), BAD);
    Due.is("2 n least", x.type(32, LEAST), BAD);
    Due.is("2 n greatest", x.type(32, GREATEST), BAD);
    Due.is("2 n 1", x.type(0x7374L, 1), 1);
    Due.is("2 clear", x.clear(), 1);
    // Only the lowest bytes count, and the highest of these comes first: "stone 1;".
    Due.is("2 stone", x.type(0xffff73746f6e65L, 5), 5);
    Due.is("2 number", x.type(-1L << 24 | 0x20313bL, 3), 8);
    Due.is("2 park", x.park(), 1);
    for (int i = 1; i <= 37; i++) Due.is("2 eight more", x.type(0x2020202020202020L, 8), 8 * i);
    Due.is("2 5 are too many", x.type(0, 5), FULL);
    Due.is("2 nothing changed", x.count(5), 296);
    Due.is("2 4 are not", x.type(0x20202020L, 4), 300);
    Due.is("2 full", x.type(0, 1), FULL);
    Due.is("2 BAD ahead of FULL", x.type(0, 9), BAD);
    Due.is("2 park of blanks", x.park(), 0);
  }

  private static void clear() {
    SeesawPark x = new SeesawPark();
    Due.is("3 empty", x.clear(), 0);
    Due.type(x, "child 3 4");
    Due.is("3 nine", x.clear(), 9);
    Due.is("3 empty again", x.clear(), 0);
    Due.is("3 count", x.count(5), 0);
  }

  private static void parkReads() {
    String[] right = {"", "   ", "plank 4 20;", "plank 1 0;", "plank4 20;", "  stone   20  ;  ", "stone 1;stone 2 ;stone 3;stone 4;stone 5;",
        "child 60 30 ; child 1 1;plank 1 1;stone 1;", "plank 1 1;plank 2 2;plank 3 3;"};
    int[] items = {0, 0, 1, 1, 1, 1, 5, 4, 3};
    for (int i = 0; i < right.length; i++) {
      SeesawPark x = new SeesawPark();
      Due.type(x, right[i]);
      Due.is("4 park of '" + right[i] + "'", x.park(), items[i]);
      Due.is("4 text behind '" + right[i] + "'", x.count(5), 0);
    }
  }

  private static void fault(String text, int place) {
    SeesawPark x = new SeesawPark();
    Due.type(x, text);
    Due.is("4 park of '" + text + "'", x.park(), -10 - place);
    Due.is("4 text of '" + text + "' stays", x.count(5), text.length());
  }

  private static void parkFaults() {
    fault("plank", 5);
    fault("plank ", 6);
    fault("plank 1", 7);
    fault("plank 1 1", 9);
    fault("plank 1 1   ", 12);
    fault("Plank 1 1;", 0);
    fault("plank 1 1; x", 11);
    fault("plank 1 1; planks 1 1;", 11);
    fault("plan 1 1;", 0);
    fault("plank ; 1;", 6);
    fault("5", 0);
    fault(" ;", 1);
    fault("plank plank", 6);
    fault("plank 1 1 1;", 10);
    fault("plankchild 1 1;", 0);
    fault("plankX 1 1;", 5);
    fault("plank 1\t1;", 7);
    fault("plank 1 " + (char) 200, 8);
    fault((char) 0 + "plank 1 1;", 0);
    fault("stone -1;", 6);
    fault("stone 0;", 6);
    fault("stone 00;", 6);
    fault("stone 01;", 6);
    fault("stone 21;", 6);
    fault("stone 99;", 6);
    fault("stone 100;", 6);
    fault("stone 4294967297;", 6);
    fault("stone 1 stone 1;", 8);
    fault("stone 1stone 1;", 7);
    fault("child 0 1;", 6);
    fault("child 61 1;", 6);
    fault("child 1 0;", 8);
    fault("child 1 31;", 8);
    fault("plank 0 0;", 6);
    fault("plank 5 0;", 6);
    fault("plank 4 21;", 8);
    fault("plank 4 00;", 8);
    fault("plank 1 1;".repeat(4), 30);
    fault("child 1 1;".repeat(9), 80);
    fault("stone 1;".repeat(6), 40);
    // The first of two faults counts, whatever their sorts.
    fault("stone 21; #", 6);
    fault("stone # 21;", 6);
  }

  private static void parkChanges() {
    SeesawPark x = Due.parkOf("plank 2 0;child 4 5;child 4 6;stone 3;");
    x.strangers(3);
    x.trial(0, 1, 0);
    x.rate(5, 1);
    x.sits(0, 0, 1);
    x.lay(0, 0, 1);
    x.keep(0);
    x.keep(1);
    Due.type(x, "plank 1 1;;");
    Due.is("4 fault", x.park(), -20);
    Due.is("4 nothing changes: planks", x.plank(0, 0), 2);
    Due.is("4 nothing changes: bumps", x.child(0, 4), 1);
    Due.is("4 nothing changes: seats", x.child(0, 3), 1);
    Due.is("4 nothing changes: stones", x.stone(0, 2), 1);
    Due.is("4 nothing changes: images", x.back(0), 1);
    Due.is("4 clear", x.clear(), 11);
    Due.type(x, "child 9 8;child 7 6;stone 2;");
    Due.is("4 read anew", x.park(), 3);
    Due.is("4 planks are gone", x.plank(0, 0), NO);
    Due.is("4 nobody sits", x.count(6), 0);
    Due.is("4 nobody sits: plank", x.child(0, 2), NONE);
    Due.is("4 nobody sits: step", x.child(0, 3), 0);
    Due.is("4 nobody was bumped", x.child(0, 4), 0);
    Due.is("4 stones are nowhere", x.stone(0, 1), NONE);
    Due.is("4 images are gone", x.back(0), STATE);
    Due.is("4 both images are gone", x.back(1), STATE);
    Due.is("4 strangers stay", x.count(4), 3);
    Due.is("4 trials stay", x.count(3), 1);
    Due.is("4 the trace stays", x.trace(), 100001);
    Due.is("4 weights are new", x.child(1, 0), 7);
    Due.is("4 empty text", x.park(), 0);
    Due.is("4 no children", x.count(1), 0);
  }

  private static void plank() {
    SeesawPark x = Due.parkOf("plank 1 3;plank 4 20;child 3 1;child 60 1;stone 1;stone 20;");
    Due.is("5 half", x.plank(0, 0), 1);
    Due.is("5 half", x.plank(1, 0), 4);
    Due.is("5 slack", x.plank(0, 1), 3);
    Due.is("5 slack", x.plank(1, 1), 20);
    Due.is("5 moment", x.plank(0, 2), 0);
    Due.is("5 tilt", x.plank(0, 3), 0);
    Due.is("5 children", x.plank(0, 4), 0);
    x.sits(0, 0, -1);
    Due.is("5 moment -3", x.plank(0, 2), -3);
    Due.is("5 level at the slack", x.plank(0, 3), 0);
    x.lay(0, 0, -1);
    Due.is("5 moment -4", x.plank(0, 2), -4);
    Due.is("5 left beyond the slack", x.plank(0, 3), -1);
    Due.is("5 a stone is no child", x.plank(0, 4), 1);
    x.sits(0, 0, 1);
    x.lay(0, 0, 1);
    Due.is("5 moment 4", x.plank(0, 2), 4);
    Due.is("5 right beyond the slack", x.plank(0, 3), 1);
    x.sits(0, 1, -4);
    x.sits(1, 1, -3);
    x.lay(1, 1, 4);
    Due.is("5 moment of all", x.plank(1, 2), -12 - 180 + 80);
    Due.is("5 two children", x.plank(1, 4), 2);
    int[] wrong = {-1, 2, 3, LEAST, GREATEST};
    for (int p : wrong) Due.is("5 plank(" + p + ", 0)", x.plank(p, 0), NO);
    Due.is("5 what -1", x.plank(0, -1), NO);
    Due.is("5 what 5", x.plank(0, 5), NO);
  }

  private static void child() {
    SeesawPark x = Due.parkOf("plank 4 0;plank 2 1;child 60 30;child 1 1;");
    Due.is("6 weight", x.child(0, 0), 60);
    Due.is("6 wish", x.child(0, 1), 30);
    Due.is("6 plank", x.child(0, 2), NONE);
    Due.is("6 step", x.child(0, 3), 0);
    Due.is("6 bumps", x.child(0, 4), 0);
    x.sits(1, 1, -2);
    Due.is("6 plank 1", x.child(1, 2), 1);
    Due.is("6 step -2", x.child(1, 3), -2);
    Due.is("6 bumped", x.child(1, 4), 1);
    x.leaves(1);
    Due.is("6 plank none", x.child(1, 2), NONE);
    Due.is("6 bumps stay", x.child(1, 4), 1);
    for (int c : new int[] {-1, 2, 8, LEAST, GREATEST}) Due.is("6 child(" + c + ", 0)", x.child(c, 0), NO);
    Due.is("6 what -1", x.child(0, -1), NO);
    Due.is("6 what 5", x.child(0, 5), NO);
  }

  private static void stone() {
    SeesawPark x = Due.parkOf("plank 4 0;plank 2 1;stone 20;stone 1;");
    Due.is("7 weight", x.stone(0, 0), 20);
    Due.is("7 plank", x.stone(1, 1), NONE);
    Due.is("7 step", x.stone(1, 2), 0);
    x.lay(1, 1, -2);
    Due.is("7 plank 1", x.stone(1, 1), 1);
    Due.is("7 step -2", x.stone(1, 2), -2);
    x.take(1);
    Due.is("7 nowhere", x.stone(1, 1), NONE);
    for (int s : new int[] {-1, 2, 5, LEAST, GREATEST}) Due.is("7 stone(" + s + ", 0)", x.stone(s, 0), NO);
    Due.is("7 what -1", x.stone(0, -1), NO);
    Due.is("7 what 3", x.stone(0, 3), NO);
  }

  private static void sits() {
    SeesawPark x = Due.parkOf("plank 3 2;plank 1 0;child 10 1;child 20 1;child 1 1;");
    Due.is("8 left comes down", x.sits(0, 0, -2), 1);
    Due.is("8 the seat is its own", x.sits(0, 0, -2), STATE);
    Due.is("8 the seat is another's", x.sits(1, 0, -2), STATE);
    Due.is("8 level", x.sits(1, 0, 1), 0);
    Due.is("8 level still", x.sits(2, 0, 2), 0);
    // It goes (20 - 20 = 0: level), then comes: 3 more on the right.
    Due.is("8 right comes down", x.sits(2, 0, 3), 2);
    Due.is("8 bumps of 1", x.child(1, 4), 1);
    Due.is("8 bumps of 2", x.child(2, 4), 1);
    // Child 0 goes: right was down already; it comes at -3: left comes down, with it alone.
    Due.is("8 left comes down again", x.sits(0, 0, -3), 1);
    Due.is("8 bumps of 0", x.child(0, 4), 2);
    // Child 0 goes to another plank: right comes down here (1 and 2), right there (0).
    Due.is("8 two planks", x.sits(0, 1, 1), 3);
    Due.is("8 plank of 0", x.child(0, 2), 1);
    Due.is("8 bumps of 0", x.child(0, 4), 3);
    Due.is("8 bumps of 2", x.child(2, 4), 2);
    Due.is("8 a seat that was left is free", x.sits(2, 0, -3), 0);
    Due.is("8 step 0", x.sits(0, 0, 0), BAD);
    Due.is("8 step 4", x.sits(0, 0, 4), BAD);
    Due.is("8 step -4", x.sits(0, 0, -4), BAD);
    Due.is("8 step 2 of a short plank", x.sits(0, 1, 2), BAD);
    Due.is("8 step least", x.sits(0, 0, LEAST), BAD);
    Due.is("8 child 3", x.sits(3, 0, 1), BAD);
    Due.is("8 child -1", x.sits(-1, 0, 1), BAD);
    Due.is("8 plank 2", x.sits(0, 2, 1), BAD);
    Due.is("8 plank -1", x.sits(0, -1, 1), BAD);
    Due.is("8 nothing changed", x.child(0, 3), 1);
  }

  private static void leaves() {
    SeesawPark x = Due.parkOf("plank 2 0;child 5 1;child 5 1;child 5 1;");
    Due.is("9 nowhere", x.leaves(0), STATE);
    x.sits(0, 0, 1);
    x.sits(1, 0, -1);
    Due.is("9 left comes down", x.leaves(0), 1);
    Due.is("9 bumps of 1", x.child(1, 4), 1);
    Due.is("9 bumps of 0", x.child(0, 4), 1);
    Due.is("9 nowhere again", x.leaves(0), STATE);
    Due.is("9 level behind it", x.leaves(1), 0);
    Due.is("9 nobody sits", x.count(6), 0);
    // A side that stays down bumps nobody.
    x.sits(0, 0, 1);
    x.sits(1, 0, 2);
    Due.is("9 right stays down", x.leaves(0), 0);
    Due.is("9 child 3", x.leaves(3), BAD);
    Due.is("9 child -1", x.leaves(-1), BAD);
  }

  private static void lay() {
    SeesawPark x = Due.parkOf("plank 2 0;plank 2 3;child 4 1;child 4 1;stone 2;stone 4;");
    Due.is("10 a stone alone bumps nobody", x.lay(0, 0, -1), 0);
    Due.is("10 tilt", x.plank(0, 3), -1);
    Due.is("10 its own seat", x.lay(0, 0, -1), STATE);
    Due.is("10 another's seat", x.lay(1, 0, -1), STATE);
    Due.is("10 a child's seat is free for a stone", x.sits(0, 0, 2), 1);
    Due.is("10 child and stone at one seat", x.lay(1, 0, 2), 0);
    Due.is("10 moment", x.plank(0, 2), -2 + 8 + 8);
    // The stone goes (6: right is down still), then comes at -2: -2, left comes down, nobody there.
    Due.is("10 from seat to seat", x.lay(1, 0, -2), 0);
    Due.is("10 moment", x.plank(0, 2), -2 + 8 - 8);
    // Taken to the other plank: right comes down here with child 0.
    Due.is("10 from plank to plank", x.lay(1, 1, 1), 1);
    Due.is("10 bumps", x.child(0, 4), 2);
    x.sits(1, 1, 2);
    Due.is("10 twice: goes, comes", x.lay(0, 1, -2), 0);
    SeesawPark y = Due.parkOf("plank 1 0;plank 1 3;child 4 1;child 3 1;stone 4;");
    y.sits(0, 0, -1);
    y.lay(0, 0, 1);
    y.sits(1, 1, 1);
    // Left comes down where it goes from, right where it comes to.
    Due.is("10 two are bumped in all", y.lay(0, 1, 1), 2);
    Due.is("10 one here", y.child(0, 4), 2);
    Due.is("10 one there", y.child(1, 4), 1);
    Due.is("10 step 3", x.lay(0, 0, 3), BAD);
    Due.is("10 step 0", x.lay(0, 0, 0), BAD);
    Due.is("10 stone 2", x.lay(2, 0, 1), BAD);
    Due.is("10 stone -1", x.lay(-1, 0, 1), BAD);
    Due.is("10 plank 2", x.lay(0, 2, 1), BAD);
  }

  private static void take() {
    SeesawPark x = Due.parkOf("plank 1 0;child 4 1;stone 4;");
    Due.is("11 nowhere", x.take(0), STATE);
    x.sits(0, 0, 1);
    x.lay(0, 0, -1);
    Due.is("11 right comes down", x.take(0), 1);
    Due.is("11 bumps", x.child(0, 4), 2);
    Due.is("11 nowhere again", x.take(0), STATE);
    Due.is("11 stone 1", x.take(1), BAD);
    Due.is("11 stone -1", x.take(-1), BAD);
  }

  private static void ways() {
    SeesawPark x = Due.parkOf("plank 2 0;plank 1 5;child 2 1;child 1 1;child 3 1;child 9 1;stone 2;");
    // 2 and 1 at steps -2 .. 2: (-1, 2), (1, -2).
    Due.is("12 two ways", x.ways(0, 3, -1), 2);
    Due.is("12 first of 0", x.ways(0, 3, 0), -1);
    Due.is("12 first of 1", x.ways(0, 3, 1), 2);
    Due.is("12 none of these", x.ways(0, 3, 2), 0);
    Due.is("12 the empty set", x.ways(0, 0, -1), 1);
    Due.is("12 the empty set, of 0", x.ways(0, 0, 0), 0);
    Due.is("12 bits beyond are left out", x.ways(0, 3 | -16, -1), 2);
    Due.is("12 all bits", x.ways(0, -1, -1), x.ways(0, 15, -1));
    Due.is("12 no way", x.ways(0, 8, -1), 0);
    Due.is("12 no way: of 3", x.ways(0, 8, 3), NONE);
    Due.is("12 no way: of one who is none of these", x.ways(0, 8, 0), NONE);
    Due.is("12 more than seats", x.ways(1, 7, -1), 0);
    Due.is("12 all within the slack", x.ways(1, 3, -1), 2);
    // Who sits there now is left aside; stones are not.
    x.sits(3, 0, -1);
    x.sits(0, 0, 1);
    Due.is("12 children are left aside", x.ways(0, 3, -1), 2);
    x.lay(0, 0, 1);
    // 2a + b = -2 with a, b of -2 .. 2: only (-2, 2).
    Due.is("12 stones are not", x.ways(0, 3, -1), 1);
    Due.is("12 first of 0 with the stone", x.ways(0, 3, 0), -2);
    Due.is("12 not level by the stone", x.ways(0, 0, -1), 0);
    Due.is("12 not level by the stone: of 0", x.ways(0, 0, 0), NONE);
    Due.is("12 nothing changed", x.child(0, 3), 1);
    Due.is("12 c -2", x.ways(0, 3, -2), NO);
    Due.is("12 c 4", x.ways(0, 3, 4), NO);
    Due.is("12 p 2", x.ways(2, 3, -1), NO);
    Due.is("12 p -1", x.ways(-1, 3, -1), NO);
    SeesawPark y = Due.parkOf("plank 4 20;" + "child 1 1;".repeat(8));
    Due.is("12 all eight, alike", y.ways(0, 255, -1), 40320);
    Due.is("12 first of 7", y.ways(0, 255, 7), 4);
    Due.is("12 first of 3", y.ways(0, 255, 3), -1);
  }

  private static void most() {
    SeesawPark x = Due.parkOf("plank 1 0;plank 2 0;plank 1 0;child 5 1;child 4 1;child 5 1;child 4 1;stone 3;stone 1;");
    Due.is("13 two", x.most(0, 0), 2);
    Due.is("13 the least of these", x.most(0, 1), 5);
    Due.is("13 four", x.most(1, 0), 4);
    Due.is("13 all", x.most(1, 1), 15);
    x.lay(0, 0, 1);
    Due.is("13 none", x.most(0, 0), NONE);
    Due.is("13 no set", x.most(0, 1), NONE);
    x.lay(1, 2, -1);
    Due.is("13 with a stone: 5 against 4 and 1", x.most(2, 1), 3);
    Due.is("13 what 2", x.most(0, 2), BAD);
    Due.is("13 what -1", x.most(0, -1), BAD);
    Due.is("13 p 3", x.most(3, 0), BAD);
    SeesawPark y = Due.parkOf("plank 1 0;child 7 1;");
    Due.is("13 the empty set", y.most(0, 0), 0);
    Due.is("13 the empty set's bits", y.most(0, 1), 0);
    SeesawPark z = Due.parkOf("plank 4 20;" + "child 60 1;".repeat(8));
    Due.is("13 eight", z.most(0, 1), 255);
  }

  private static void moves() {
    SeesawPark x = Due.parkOf("plank 2 0;child 4 1;child 8 1;child 8 1;child 1 1;stone 5;");
    Due.is("14 nobody there", x.moves(0), 0);
    x.sits(0, 0, 2);
    x.sits(1, 0, 1);
    Due.is("14 one: 4 to -2", x.moves(0), 1);
    x.sits(1, 0, 2);
    Due.is("14 STATE left it there", x.moves(0), 1);
    x.sits(0, 0, -1);
    x.sits(1, 0, 2);
    Due.is("14 neither alone can", x.moves(0), 2);
    x.sits(0, 0, -2);
    x.sits(1, 0, 1);
    Due.is("14 level", x.moves(0), 0);
    x.sits(0, 0, 2);
    x.sits(1, 0, -1);
    x.sits(1, 0, -2);
    x.sits(0, 0, -1);
    // 8 at -2, 4 at -1: 8 to 1 and 4 to -2, or mirrored: both must move.
    Due.is("14 two", x.moves(0), 2);
    x.sits(3, 0, 2);
    Due.is("14 none", x.moves(0), NONE);
    Due.is("14 nothing changed", x.child(1, 3), -2);
    x.leaves(3);
    x.lay(0, 0, 1);
    Due.is("14 none by the stone", x.moves(0), NONE);
    SeesawPark y = Due.parkOf("plank 2 0;child 4 1;child 2 1;child 2 1;stone 4;");
    y.sits(0, 0, -2);
    y.lay(0, 0, -2);
    Due.is("14 to the other side of the stone", y.moves(0), 1);
    y.take(0);
    y.sits(0, 0, -1);
    y.sits(1, 0, 1);
    y.sits(2, 0, 2);
    Due.is("14 two at one seat would help", y.moves(0), NONE);
    Due.is("14 p 1", x.moves(1), BAD);
    Due.is("14 p -1", x.moves(-1), BAD);
  }

  private static void ballast() {
    SeesawPark x = Due.parkOf("plank 2 0;plank 1 1;child 6 1;child 50 1;stone 6;stone 2;stone 3;stone 6;");
    Due.is("15 level", x.ballast(0, 0), 0);
    Due.is("15 level: set", x.ballast(0, 1), 0);
    x.sits(0, 0, 1);
    Due.is("15 one", x.ballast(0, 0), 1);
    Due.is("15 the least", x.ballast(0, 1), 1);
    x.lay(0, 1, 1);
    Due.is("15 the next: 3 at -2", x.ballast(0, 1), 4);
    x.lay(2, 1, -1);
    Due.is("15 the last", x.ballast(0, 1), 8);
    x.lay(3, 0, 2);
    // 6 + 12 = 18: stone 1 alone can't.
    Due.is("15 none", x.ballast(0, 0), NONE);
    Due.is("15 none: set", x.ballast(0, 1), NONE);
    Due.is("15 what 2", x.ballast(0, 2), BAD);
    Due.is("15 what -1", x.ballast(0, -1), BAD);
    Due.is("15 p 2", x.ballast(2, 0), BAD);
    // A seat with a stone takes no other: 1 is left of plank 1's two seats.
    SeesawPark y = Due.parkOf("plank 1 0;child 2 1;stone 1;stone 3;");
    y.lay(0, 0, -1);
    y.sits(0, 0, -1);
    Due.is("15 at the free seat", y.ballast(0, 1), 2);
    y.sits(0, 0, 1);
    Due.is("15 only -1 would help", y.ballast(0, 0), NONE);
    SeesawPark z = Due.parkOf("plank 3 0;child 7 1;stone 1;stone 2;");
    z.sits(0, 0, 1);
    Due.is("15 all stones", z.ballast(0, 0), 2);
    Due.is("15 all stones: set", z.ballast(0, 1), 3);
    SeesawPark w = Due.parkOf("plank 4 0;child 4 1;stone 1;");
    w.sits(0, 0, -1);
    Due.is("15 at the last seat", w.ballast(0, 1), 1);
    w.sits(0, 0, 1);
    Due.is("15 at the first seat", w.ballast(0, 1), 1);
  }

  private static void game() {
    SeesawPark x = Due.parkOf("plank 1 2;plank 1 1;child 2 1;child 2 1;child 2 1;stone 2;");
    // Any first move leaves the one who is next a move to the other side, then it ends.
    Due.is("16 lost", x.game(0, 0), 0);
    Due.is("16 lost: no move", x.game(0, 1), NONE);
    Due.is("16 no move at all is lost", x.game(1, 0), 0);
    x.lay(0, 0, -1);
    // 2 at 1: level by the stone; then -1 would tilt no more than 2 and 2 at -1: -2: level.
    Due.is("16 with a stone", x.game(0, 0), 0);
    SeesawPark y = Due.parkOf("plank 4 3;child 9 1;child 3 1;stone 3;");
    // Child 1 at -1 or 1; behind it child 0 can't: 9 less 3 is beyond 3.
    Due.is("16 won", y.game(0, 0), 1);
    Due.is("16 the first move", y.game(0, 1), 100 - 1 + 4);
    y.lay(0, 0, -1);
    Due.is("16 the first move, by a stone", y.game(0, 1), 100 + 1 + 4);
    y.lay(0, 0, 2);
    Due.is("16 not level", y.game(0, 0), STATE);
    Due.is("16 BAD ahead of STATE", y.game(0, 2), BAD);
    SeesawPark z = Due.parkOf("plank 4 20;" + "child 1 1;".repeat(5));
    Due.is("16 five sit nowhere", z.game(0, 0), STATE);
    z.sits(0, 0, 1);
    Due.is("16 four, all can", z.game(0, 0), 0);
    z.sits(1, 0, -4);
    Due.is("16 three, all can", z.game(0, 0), 1);
    Due.is("16 the first move: child 2 at -3", z.game(0, 1), 200 - 3 + 4);
    z.sits(2, 0, 2);
    z.sits(3, 0, 3);
    z.sits(4, 0, 4);
    Due.is("16 none is left", z.game(0, 0), 0);
    SeesawPark v = Due.parkOf("plank 4 20;child 1 1;");
    Due.is("16 one child wins", v.game(0, 0), 1);
    Due.is("16 a move may be 0", v.game(0, 1), 0);
    Due.is("16 p 1", z.game(1, 0), BAD);
    Due.is("16 p -1", z.game(-1, 0), BAD);
    Due.is("16 what -1", z.game(0, -1), BAD);
  }

  private static void strangers() {
    SeesawPark x = new SeesawPark();
    Due.is("17 were 2", x.strangers(5), 2);
    x.trial(3, 4, 0);
    for (int n : new int[] {-1, 0, 1, 6, LEAST, GREATEST}) Due.is("17 " + n, x.strangers(n), BAD);
    Due.is("17 nothing changed", x.count(3), 1);
    Due.is("17 were 5", x.strangers(5), 5);
    Due.is("17 no trials", x.count(3), 0);
    Due.is("17 all fit", x.could(-1, 1), 7776);
    Due.is("17 the fewest", x.strangers(2), 5);
    Due.is("17 all of two fit", x.could(-1, 1), 36);
  }

  private static void trial() {
    SeesawPark x = new SeesawPark();
    Due.is("18 first", x.trial(0, 1, -1), 1);
    Due.is("18 a is heavier", x.could(0, 1), 0);
    Due.is("18 b is not", x.could(1, 6), 0);
    Due.is("18 alike ones", x.trial(1, 1, 0), BAD);
    Due.is("18 a 2", x.trial(2, 1, 0), BAD);
    Due.is("18 b -1", x.trial(0, -1, 0), BAD);
    Due.is("18 r 2", x.trial(0, 1, 2), BAD);
    Due.is("18 r -2", x.trial(0, 1, -2), BAD);
    for (int i = 2; i <= 12; i++) Due.is("18 " + i, x.trial(1, 0, 1), i);
    Due.is("18 twelve are full", x.trial(1, 0, 1), FULL);
    Due.is("18 BAD ahead of FULL", x.trial(0, 0, 1), BAD);
    Due.is("18 twelve", x.count(3), 12);
    Due.is("18 fit", x.could(-1, 1), 15);
    x.strangers(2);
    x.trial(0, 1, 0);
    Due.is("18 asked of one at once", x.could(0, 6), 1);
  }

  private static void could() {
    SeesawPark x = new SeesawPark();
    Due.is("19 all", x.could(-1, 6), 36);
    Due.is("19 of one", x.could(1, 3), 6);
    x.trial(0, 1, 1);
    Due.is("19 b is heavier", x.could(-1, 1), 15);
    Due.is("19 of 0", x.could(0, 1), 5);
    Due.is("19 of 1", x.could(1, 6), 5);
    x.trial(0, 1, 0);
    Due.is("19 none fits", x.could(-1, 1), 0);
    Due.is("19 w 0", x.could(0, 0), BAD);
    Due.is("19 w 7", x.could(0, 7), BAD);
    Due.is("19 w 0, whatever a", x.could(-1, 0), BAD);
    Due.is("19 w 7, whatever a", x.could(-1, 7), BAD);
    Due.is("19 a -2", x.could(-2, 1), BAD);
    Due.is("19 a 2", x.could(2, 1), BAD);
  }

  private static void sure() {
    SeesawPark x = new SeesawPark();
    x.strangers(5);
    Due.is("20 any", x.sure(0), NONE);
    for (int a = 0; a < 4; a++) x.trial(a, a + 1, -1);
    Due.is("20 two for each", x.sure(2), NONE);
    Due.is("20 a -1", x.sure(-1), BAD);
    Due.is("20 a 5", x.sure(5), BAD);
    x.trial(4, 0, -1);
    Due.is("20 nothing fits", x.sure(0), NONE);
    // With five strangers no trials can tell six weights apart: nobody is ever sure of one.
  }

  private static void next() {
    SeesawPark x = new SeesawPark();
    Due.is("21 the only pair", x.next(0), 1);
    Due.is("21 left at worst", x.next(1), 15);
    x.strangers(3);
    x.trial(0, 1, 0);
    // (0, 1) leaves all 36; (0, 2) 15 at worst, (1, 2) as many.
    Due.is("21 the first of the best", x.next(0), 2);
    Due.is("21 that many", x.next(1), 15);
    x.trial(0, 2, 0);
    Due.is("21 all alike", x.next(0), 1);
    Due.is("21 six", x.next(1), 6);
    x.trial(1, 2, 1);
    Due.is("21 nothing fits", x.next(0), 1);
    Due.is("21 none left", x.next(1), 0);
    x.strangers(3);
    x.trial(0, 1, -1);
    x.trial(0, 2, -1);
    // 0 above both: 1 and 2 are free below it.
    Due.is("21 the last pair", x.next(0), 12);
    Due.is("21 20 of 55", x.next(1), 20);
    x.strangers(2);
    x.trial(0, 1, 1);
    Due.is("21 the second is heavier: all are left", x.next(1), 15);
    x.strangers(2);
    x.trial(0, 1, -1);
    Due.is("21 the first is heavier: all are left", x.next(1), 15);
    Due.is("21 what 2", x.next(2), BAD);
    Due.is("21 what -1", x.next(-1), BAD);
  }

  private static void rides() {
    SeesawPark x = Due.parkOf("plank 1 1;plank 1 5;child 10 2;child 20 3;child 11 4;child 14 1;child 18 2;");
    // Minute 0: plank 0: 10 and 11 (0, 2); plank 1: 20 and 18 (1, 4). 14 (3) waits.
    int[][] due = {
        // ridden by 0 .. 4, waiting, behind each minute
        {0, 0, 0, 0, 0, 5},
        {1, 1, 1, 0, 0 + 1, 1},
        {2, 2, 2, 0, 2, 1},
        // Minute 2: plank 0: 0 is done, 2 waits: 14, 11: none fits within 1. Plank 1: 4 is done, 1 waits: 14, 11, 20: 14 and 11 ride.
        {2, 2, 3, 1, 2, 1},
        // Minute 3: 14 is done; 11 waits behind 20: 9 apart.
        {2, 2, 3, 1, 2, 2},
    };
    for (int m = 0; m < due.length; m++) {
      for (int c = 0; c < 5; c++) Due.is("22 rides(" + m + ", " + c + ")", x.rides(m, c), due[m][c]);
      Due.is("22 rides(" + m + ", -1)", x.rides(m, -1), due[m][5]);
    }
    Due.is("22 99 minutes", x.rides(99, -1), 2);
    Due.is("22 minutes 100", x.rides(100, -1), BAD);
    Due.is("22 minutes -1", x.rides(-1, -1), BAD);
    Due.is("22 c 5", x.rides(1, 5), BAD);
    Due.is("22 c -2", x.rides(1, -2), BAD);
    SeesawPark y = Due.parkOf("plank 1 0;plank 1 9;child 1 1;child 5 3;child 30 1;child 5 9;");
    Due.is("22 plank 0 takes the two alike", y.rides(1, 1), 1);
    Due.is("22 they ride on", y.rides(3, 3), 3);
    Due.is("22 one is done, one rides anew at once", y.rides(4, -1), 1);
    Due.is("22 with 0 on plank 1", y.rides(4, 0), 1);
    // Plank by plank: who leaves plank 1 is not in the row yet when plank 0 takes its two.
    SeesawPark z = Due.parkOf("plank 1 0;plank 1 9;child 40 1;child 40 1;child 12 1;child 12 5;child 12 5;child 15 5;");
    int[] ridden = {1, 1, 1, 1, 1, 1};
    for (int c = 0; c < ridden.length; c++) Due.is("22 plank by plank, child " + c, z.rides(2, c), ridden[c]);
    Due.is("22 plank by plank, waiting", z.rides(2, -1), 1);
  }

  private static void forever() {
    SeesawPark x = Due.parkOf("plank 1 1;plank 1 3;child 10 1;child 14 1;child 13 1;child 40 1;child 44 1;");
    Due.is("23 the two apart", x.forever(), 8 + 16);
    SeesawPark w = Due.parkOf("plank 1 3;plank 1 1;child 10 1;child 13 1;");
    Due.is("23 the first plank is enough", w.forever(), 0);
    SeesawPark y = Due.parkOf("child 10 1;child 10 1;");
    Due.is("23 no plank", y.forever(), 3);
    SeesawPark z = Due.parkOf("plank 1 20;child 10 1;");
    Due.is("23 alone", z.forever(), 1);
    Due.is("23 nobody", new SeesawPark().forever(), 0);
  }

  private static void rate() {
    SeesawPark x = Due.parkOf("plank 4 0;child 10 5;child 20 30;");
    x.sits(1, 0, 3);
    x.sits(1, 0, -3);
    int[] due = {20, 22, 23, 44, 53, 19};
    for (int kind = 0; kind < 6; kind++) Due.is("24 rate(" + kind + ", 1)", x.rate(kind, 1), due[kind]);
    Due.is("24 who sits nowhere", x.rate(2, 0), 10);
    Due.is("24 number 0", x.rate(5, 0), 10);
    long before = x.trace();
    Due.is("24 kind 6", x.rate(6, 0), NO);
    Due.is("24 kind -1", x.rate(-1, 0), NO);
    Due.is("24 child 2", x.rate(0, 2), NO);
    Due.is("24 child -1", x.rate(0, -1), NO);
    Due.is("24 no trace of these", x.trace(), before);
  }

  private static void images() {
    SeesawPark x = Due.parkOf("plank 2 0;child 4 1;child 4 1;stone 2;");
    Due.is("25 nobody sits", x.keep(1), 0);
    x.sits(0, 0, 1);
    x.lay(0, 0, -2);
    Due.is("25 one sits", x.keep(0), 1);
    Due.is("25 image 2", x.keep(2), BAD);
    Due.is("25 image -1", x.keep(-1), BAD);
    x.sits(1, 0, 2);
    x.leaves(0);
    x.take(0);
    x.strangers(4);
    x.rate(0, 0);
    Due.type(x, "stone");
    Due.is("26 one sits", x.back(0), 1);
    Due.is("26 child 0", x.child(0, 3), 1);
    Due.is("26 child 0's plank", x.child(0, 2), 0);
    Due.is("26 bumps of 0", x.child(0, 4), 1);
    Due.is("26 child 1", x.child(1, 2), NONE);
    Due.is("26 bumps of 1", x.child(1, 4), 0);
    Due.is("26 stone", x.stone(0, 2), -2);
    Due.is("26 nothing else: strangers", x.count(4), 4);
    Due.is("26 nothing else: trace", x.trace(), 1);
    Due.is("26 nothing else: text", x.count(5), 5);
    Due.is("26 the other", x.back(1), 0);
    Due.is("26 nobody was bumped", x.child(0, 4), 0);
    x.sits(1, 0, 2);
    Due.is("26 an image is kept for good", x.back(0), 1);
    Due.is("26 image 2", x.back(2), BAD);
    Due.is("26 image -1", x.back(-1), BAD);
    SeesawPark z = Due.parkOf("plank 1 0;plank 1 0;child 4 1;stone 4;");
    z.sits(0, 1, 1);
    z.lay(0, 1, -1);
    z.keep(1);
    z.sits(0, 0, 1);
    z.lay(0, 0, -1);
    z.back(1);
    Due.is("26 a child's plank", z.child(0, 2), 1);
    Due.is("26 a stone's plank", z.stone(0, 1), 1);
    SeesawPark y = new SeesawPark();
    y.keep(0);
    Due.is("26 the other was not kept", y.back(1), STATE);
    Due.is("26 this one was", y.back(0), 0);
  }

  private static void count() {
    SeesawPark x = Due.parkOf("plank 2 0;child 4 1;child 4 1;child 4 1;stone 2;stone 2;");
    x.strangers(3);
    x.trial(0, 1, 0);
    x.sits(2, 0, 1);
    x.sits(1, 0, 2);
    Due.type(x, "child 1 1");
    int[] due = {1, 3, 2, 1, 3, 9, 2};
    for (int what = 0; what < due.length; what++) Due.is("27 count(" + what + ")", x.count(what), due[what]);
    Due.is("27 count(7)", x.count(7), BAD);
    Due.is("27 count(-1)", x.count(-1), BAD);
  }

  private static void trace() {
    long[] due = {1, 11, 101, 1011, 10101, 100001};
    for (int kind = 0; kind < 6; kind++) {
      SeesawPark x = Due.parkOf("child 4 1;");
      x.rate(kind, 0);
      Due.is("28 trace of " + kind, x.trace(), due[kind]);
      x.rate(kind, 0);
      Due.is("28 trace of " + kind + " twice", x.trace(), 2 * due[kind]);
    }
  }
}
