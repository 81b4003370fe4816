/**
 * The edges that the document's "Terms" name, sentence by sentence: the last that is allowed and the first that is not.
 * Each answer is named by the number of its promise and by the words that it holds to.
 */
public final class TermsTest {
  private static final int BAD = -1, STATE = -2, FULL = -3, NONE = -9;

  public static void main(String[] args) {
    planksAtMost();
    half();
    slack();
    seats();
    childrenAtMost();
    weightAndWish();
    stonesAtMost();
    stoneWeight();
    textAtMost();
    blanks();
    itemsEnded();
    bytesThatBeginNone();
    wordsThatAreNone();
    numbersThatAreNone();
    tokensThatCanStand();
    firstFault();
    endsTooEarly();
    nowhereAtFirst();
    oneAtEachSeat();
    moment();
    tilt();
    comesDown();
    asTheyAreThen();
    changesSeats();
    Due.end();
  }

  // ---- 1 PLANKS, CHILDREN, STONES and their text

  /** Reads a text on a new object; a FAULT must leave all as it was, the text too. */
  private static void fault(String sentence, String text, int place) {
    Due.changesNothing("4 " + sentence + ": '" + text + "'", x -> Due.type(x, text), -10 - place, x -> x.park());
    Due.changesNothing("4 " + sentence + ": '" + text + "' in a park", x -> {
      Due.busy(x);
      x.clear();
      Due.type(x, text);
    }, -10 - place, x -> x.park());
  }

  private static SeesawPark reads(String sentence, String text, int items) {
    SeesawPark x = new SeesawPark();
    Due.type(x, text);
    Due.is("4 " + sentence + ": '" + text + "'", x.park(), items);
    Due.is("4 " + sentence + ": '" + text + "' is empty then", x.count(5), 0);
    return x;
  }

  private static void planksAtMost() {
    String sentence = "PLANKS 0 .. (3 at most)", one = "plank 1 0;";
    for (int n = 0; n <= 3; n++) Due.is("4 " + sentence, reads(sentence, one.repeat(n), n).count(0), n);
    fault(sentence, one.repeat(4), 30);
    fault("a fourth plank, with others between", one + "stone 1;" + one + "child 1 1;" + one + "stone 1; plank", 57);
    Due.is("5 the third PLANK", reads(sentence, "plank 1 0;plank 2 1;plank 3 2;", 3).plank(2, 0), 3);
  }

  private static void half() {
    String sentence = "HALF (1 .. 4)";
    for (int h = 1; h <= 4; h++) Due.is("5 " + sentence, reads(sentence, "plank " + h + " 7;", 1).plank(0, 0), h);
    for (int h : new int[] {0, 5, 9, 10, 14, 20, 99}) fault(sentence, "plank " + h + " 7;", 6);
  }

  private static void slack() {
    String sentence = "SLACK (0 .. 20)";
    for (int s = 0; s <= 20; s++) Due.is("5 " + sentence, reads(sentence, "plank 2 " + s + ";", 1).plank(0, 1), s);
    for (int s : new int[] {21, 22, 60, 99}) fault(sentence, "plank 2 " + s + ";", 8);
    fault(sentence + ", none below 0", "plank 2 -1;", 8);
  }

  private static void seats() {
    for (int half = 1; half <= 4; half++) {
      for (int step = -6; step <= 6; step++) {
        boolean seat = step != 0 && Math.abs(step) <= half;
        String sentence = "SEATS: steps -HALF .. -1, 1 .. HALF; HALF " + half + ", step " + step;
        int at = step;
        Due.History h = Due.told("plank " + half + " 0;child 1 1;stone 1;");
        if (seat) {
          SeesawPark x = new SeesawPark();
          h.on(x);
          Due.is("8 " + sentence, x.sits(0, 0, step), 1);
          Due.is("6 " + sentence, x.child(0, 3), step);
          x.leaves(0);
          Due.is("10 " + sentence, x.lay(0, 0, step), 0);
          Due.is("7 " + sentence, x.stone(0, 2), step);
        } else {
          Due.changesNothing("8 " + sentence, h, BAD, x -> x.sits(0, 0, at));
          Due.changesNothing("10 " + sentence, h, BAD, x -> x.lay(0, 0, at));
        }
      }
    }
  }

  private static void childrenAtMost() {
    String sentence = "CHILDREN 0 .. (8 at most)", one = "child 2 1;";
    for (int n = 0; n <= 8; n++) Due.is("4 " + sentence, reads(sentence, one.repeat(n), n).count(1), n);
    fault(sentence, one.repeat(9), 80);
    fault("a ninth child, whatever follows it", one.repeat(8) + "child #", 80);
    SeesawPark x = reads(sentence, one.repeat(7) + "child 60 30;", 8);
    Due.is("6 the eighth child's WEIGHT", x.child(7, 0), 60);
    Due.is("6 the eighth child's WISH", x.child(7, 1), 30);
  }

  private static void weightAndWish() {
    for (int w = 1; w <= 60; w++) Due.is("6 WEIGHT (1 .. 60)", reads("WEIGHT (1 .. 60)", "child " + w + " 5;", 1).child(0, 0), w);
    for (int w : new int[] {0, 61, 62, 99}) fault("WEIGHT (1 .. 60)", "child " + w + " 5;", 6);
    for (int m = 1; m <= 30; m++) Due.is("6 WISH (1 .. 30)", reads("WISH (1 .. 30)", "child 60 " + m + ";", 1).child(0, 1), m);
    for (int m : new int[] {0, 31, 32, 60, 99}) fault("WISH (1 .. 30)", "child 60 " + m + ";", 9);
  }

  private static void stonesAtMost() {
    String sentence = "STONES 0 .. (5 at most)", one = "stone 2;";
    for (int n = 0; n <= 5; n++) Due.is("4 " + sentence, reads(sentence, one.repeat(n), n).count(2), n);
    fault(sentence, one.repeat(6), 40);
    Due.is("7 the fifth STONE", reads(sentence, one.repeat(4) + "stone 19;", 5).stone(4, 0), 19);
    SeesawPark all = reads("all there may be", "plank 1 0;".repeat(3) + "child 2 1;".repeat(8) + one.repeat(5), 16);
    Due.is("4 all there may be", 100 * all.count(0) + 10 * all.count(1) + all.count(2), 385);
  }

  private static void stoneWeight() {
    String sentence = "STONES have a WEIGHT (1 .. 20)";
    for (int w = 1; w <= 20; w++) Due.is("7 " + sentence, reads(sentence, "stone " + w + ";", 1).stone(0, 0), w);
    for (int w : new int[] {0, 21, 22, 60, 99}) fault(sentence, "stone " + w + ";", 6);
  }

  private static void textAtMost() {
    String sentence = "a text (300 bytes at most)";
    SeesawPark x = reads(sentence, " ".repeat(292) + "stone 7;", 1);
    Due.is("4 " + sentence + ": the last byte is read", x.stone(0, 0), 7);
    fault(sentence + ": a FAULT at the last byte", " ".repeat(299) + "#", 299);
    fault(sentence + ": its length", " ".repeat(295) + "stone", 300);
    fault(sentence + ": its length, behind blanks", "stone" + " ".repeat(295), 300);
    Due.History full = y -> Due.type(y, "stone 7;" + " ".repeat(292));
    for (int n = 1; n <= 8; n++) {
      int bytes = n;
      Due.changesNothing("2 " + sentence + ": " + n + " beyond", full, FULL, y -> y.type(0, bytes));
      Due.changesNothing("2 " + sentence + ": " + n + " where " + (n - 1) + " could come", y -> {
        Due.type(y, "stone 7;" + " ".repeat(293 - bytes));
      }, FULL, y -> y.type(0x2020202020202020L, bytes));
      SeesawPark z = new SeesawPark();
      Due.type(z, " ".repeat(300 - n));
      Due.is("2 " + sentence + ": the last " + n, z.type(0x2020202020202020L, n), 300);
    }
  }

  private static void blanks() {
    String sentence = "blanks (32) between TOKENS";
    reads(sentence + ": none but blanks", " ", 0);
    reads(sentence + ": no byte at all", "", 0);
    SeesawPark x = reads(sentence + ": many, ahead and behind too", "   plank   4   20   ;   stone   5   ;   ", 2);
    Due.is("4 " + sentence, x.plank(0, 1), 20);
    for (int b : new int[] {0, 9, 10, 13, 31, 33, 127, 160}) fault(sentence + ": byte " + b + " is none", "plank 4" + (char) b + "5;", 7);
    fault(sentence + ": a word is not cut by one", "pla nk 4 5;", 0);
    fault(sentence + ": a NUMBER is not cut by one", "plank 4 2 0;", 10);
  }

  private static void itemsEnded() {
    String sentence = "ITEMS, each ended by ;";
    reads(sentence, "plank 1 0;child 1 1;stone 1;", 3);
    fault(sentence + ": the last, too", "stone 1;stone 1", 15);
    fault(sentence + ": not by the next", "stone 1 stone 1;", 8);
    fault(sentence + ": not twice", "stone 1;;", 8);
    fault(sentence + ": not by itself", ";", 0);
    fault(sentence + ": not ahead of its NUMBERS", "child 1;", 7);
    fault(sentence + ": not behind more NUMBERS", "stone 1 1;", 8);
  }

  private static void bytesThatBeginNone() {
    for (int b = 0; b < 256; b++) {
      boolean letter = b >= 'a' && b <= 'z', digit = b >= '0' && b <= '9';
      String sentence = "a byte that begins none, byte " + b;
      if (!letter && !digit && b != ';' && b != ' ') {
        fault(sentence + " ahead", (char) b + "stone 1;", 0);
        fault(sentence + " in a word's place", "stone 1;" + (char) b, 8);
        fault(sentence + " in a NUMBER's place", "stone " + (char) b + ";", 6);
        fault(sentence + " at a word's end", "stone" + (char) b + "1;", 5);
        fault(sentence + " at a NUMBER's end", "stone 1" + (char) b + ";", 7);
      }
      if (letter) fault("words of letters a .. z: " + (char) b + " goes on with a word", "stone" + (char) b + " 1;", 0);
      if (digit) fault("NUMBERS: " + (char) b + " goes on with a NUMBER", "stone 21" + (char) b + ";", 6);
    }
  }

  private static void wordsThatAreNone() {
    String[] words = {"p", "plan", "planks", "lank", "plank" + "plank", "plang", "aplank", "blank", "Plank", "chil", "childs", "chile", "shild",
        "ston", "stones", "stony", "atone", "a", "z", "childstone"};
    for (String word : words) {
      fault("a word that is none of these", word + " 1 1;", 0);
      fault("a word that is none of these, behind an ITEM", "stone 1;  " + word + " 1;", 10);
    }
    fault("a word that is none of these, in a NUMBER's place", "plank planks", 6);
    for (String word : new String[] {"PLANK", "CHILD", "STONE"}) fault("words of letters a .. z, no others", word + " 1 1;", 0);
    fault("words of letters a .. z, no others: that TOKEN's, behind the word", "stonE 1;", 0);
  }

  private static void numbersThatAreNone() {
    String above = "a NUMBER above 99", ahead = "a NUMBER with a 0 ahead of others";
    for (String n : new String[] {"100", "101", "110", "200", "256", "257", "999", "1000", "65537", "2147483649", "4294967297", "18446744073709551617",
        "1" + "0".repeat(60), "9".repeat(200)}) {
      fault(above, "stone " + n + ";", 6);
      fault(above + ", as SLACK", "plank 4  " + n + ";", 9);
      fault(above + ", in a word's place", "stone 1; " + n, 9);
    }
    for (String n : new String[] {"00", "01", "02", "010", "020", "007", "0".repeat(50) + "1"}) {
      fault(ahead, "stone " + n + ";", 6);
      fault(ahead + ", as SLACK", "plank 4 " + n + ";", 8);
      fault(ahead + ", as HALF", "plank " + n + " 4;", 6);
    }
    reads("0 alone is a NUMBER", "plank 4 0;", 1);
    reads("a 0 behind others", "child 10 20;child 60 30;plank 1 20;", 3);
  }

  /** What may follow each beginning of a text; else the FAULT is at the TOKEN that was put behind it. */
  private static void tokensThatCanStand() {
    String[] beginnings = {"", "plank", "plank 4", "plank 4 5", "child", "child 5", "child 5 6", "stone", "stone 5", "stone 5;", "plank 4 5;", "child 5 6 ;"};
    String[] may = {"word", "number", "number", ";", "number", "number", ";", "number", ";", "word", "word", "word"};
    String[] tokens = {"plank", "child", "stone", "3", ";", "seat", "#", "300", "03"};
    String[] sorts = {"word", "word", "word", "number", ";", "none", "none", "none", "none"};
    for (int i = 0; i < beginnings.length; i++) {
      for (int t = 0; t < tokens.length; t++) {
        String sentence = "the first TOKEN that can't stand there", text = beginnings[i] + " " + tokens[t];
        if (!sorts[t].equals(may[i])) fault(sentence, text, beginnings[i].length() + 1);
        else if (tokens[t].equals(";")) reads(sentence, text, 1);
        else fault(sentence + " (it can), so the text ends too early", text, text.length());
      }
    }
  }

  private static void firstFault() {
    String sentence = "the first TOKEN that can't stand";
    fault(sentence + ": a NUMBER ahead of a byte", "stone 21 #", 6);
    fault(sentence + ": a byte ahead of a NUMBER", "stone # 21;", 6);
    fault(sentence + ": SLACK ahead of a word", "plank 4 21; seat", 8);
    fault(sentence + ": HALF ahead of SLACK", "plank 5 21;", 6);
    fault(sentence + ": WEIGHT ahead of WISH", "child 61 31;", 6);
    fault(sentence + ": ahead of the text's end", "stone 0", 6);
    fault(sentence + ": a ninth child ahead of a fourth plank", "child 1 1;".repeat(8) + "plank 1 0;".repeat(3) + "child 1 1;plank 1 0;", 110);
    fault(sentence + ": a sixth stone ahead of its WEIGHT", "stone 1;".repeat(5) + "stone 0;", 40);
    fault(sentence + ": the word itself is fine", "stone 1;".repeat(4) + "stone 0;", 38);
  }

  private static void endsTooEarly() {
    String[] whole = {"plank 4 20;", "child 60 30;", "stone 20;"};
    for (String item : whole) {
      for (int n = 1; n < item.length(); n++) {
        String part = item.substring(0, n);
        if (n >= 5) fault("the text's length, if it ends too early", part, n);
        if (n >= 5) fault("the text's length, behind an ITEM and blanks", "stone 1; " + part + "  ", n + 11);
        if (n < 5) fault("a word that is none of these comes ahead of the end", part, 0);
      }
      reads("it does not end too early", item, 1);
    }
  }

  // ---- 2 who sits where

  private static void nowhereAtFirst() {
    SeesawPark x = Due.parkOf("plank 4 0;child 5 6;stone 7;");
    Due.is("6 nowhere (at first): PLANK", x.child(0, 2), NONE);
    Due.is("6 nowhere (at first): step", x.child(0, 3), 0);
    Due.is("6 not BUMPED at first", x.child(0, 4), 0);
    Due.is("7 nowhere (at first): PLANK", x.stone(0, 1), NONE);
    Due.is("7 nowhere (at first): step", x.stone(0, 2), 0);
    Due.is("5 nobody there at first", x.plank(0, 4), 0);
    Due.is("27 nobody sits at first", x.count(6), 0);
  }

  private static void oneAtEachSeat() {
    Due.History h = x -> {
      Due.told("plank 4 20;plank 4 20;child 1 1;child 1 1;stone 1;stone 1;").on(x);
      x.sits(0, 0, 3);
      x.lay(0, 0, -3);
    };
    Due.changesNothing("8 one child at each SEAT at most", h, STATE, x -> x.sits(1, 0, 3));
    Due.changesNothing("8 itself, too", h, STATE, x -> x.sits(0, 0, 3));
    Due.changesNothing("10 one STONE at each SEAT at most", h, STATE, x -> x.lay(1, 0, -3));
    Due.changesNothing("10 itself, too", h, STATE, x -> x.lay(0, 0, -3));
    SeesawPark x = new SeesawPark();
    h.on(x);
    Due.is("8 a child where a STONE is", x.sits(1, 0, -3), 0);
    Due.is("10 a STONE where a child is", x.lay(1, 0, 3), 0);
    Due.is("8 the same step of another PLANK", x.sits(1, 1, 3), 0);
    Due.is("10 the same step of another PLANK", x.lay(1, 1, -3), 0);
    Due.is("8 a SEAT that was left", x.sits(1, 0, -3), 0);
    Due.is("10 a SEAT that a STONE left", x.lay(1, 0, 3), 0);
  }

  private static void moment() {
    String text = "plank 4 20;" + "child 60 1;".repeat(4) + "stone 20;".repeat(4);
    for (int side = -1; side <= 1; side += 2) {
      SeesawPark x = Due.parkOf(text);
      for (int i = 0; i < 4; i++) {
        x.sits(i, 0, side * (i + 1));
        x.lay(i, 0, side * (i + 1));
      }
      Due.is("5 MOMENT: WEIGHT times step of all that is on it, added: the farthest", x.plank(0, 2), side * 800);
      Due.is("5 TILT at the farthest", x.plank(0, 3), side);
      x.leaves(3);
      x.take(3);
      Due.is("5 MOMENT without what is nowhere", x.plank(0, 2), side * 480);
    }
    SeesawPark y = Due.parkOf("plank 4 0;plank 4 0;child 9 1;stone 8;");
    y.sits(0, 1, 2);
    y.lay(0, 1, 2);
    Due.is("5 MOMENT without what is on another PLANK", y.plank(0, 2), 0);
    Due.is("5 MOMENT there", y.plank(1, 2), 34);
    Due.is("5 children there", y.plank(1, 4), 1);
    y.sits(0, 0, -2);
    y.lay(0, 0, -2);
    Due.is("5 MOMENT without what is on an earlier PLANK", y.plank(1, 2), 0);
    Due.is("5 children without those on an earlier PLANK", y.plank(1, 4), 0);
    Due.is("5 MOMENT on the earlier PLANK", y.plank(0, 2), -34);
  }

  private static void tilt() {
    for (int slack = 0; slack <= 20; slack++) {
      for (int weight = Math.max(1, slack - 1); weight <= slack + 2; weight++) {
        for (int side = -1; side <= 1; side += 2) {
          SeesawPark x = Due.parkOf("plank 1 " + slack + ";child " + weight + " 1;");
          String sentence = "LEVEL, if MOMENT is SLACK to either side at most; SLACK " + slack + ", MOMENT " + side * weight;
          Due.is("8 " + sentence, x.sits(0, 0, side), weight > slack ? 1 : 0);
          Due.is("5 " + sentence, x.plank(0, 3), weight > slack ? side : 0);
        }
      }
    }
  }

  /** From every TILT to every other: a side COMES DOWN, if it is DOWN then and was not. */
  private static void comesDown() {
    int[] steps = {-4, -3, -2, -1, 1, 2, 3, 4};
    for (int from : steps) {
      for (int weight = 1; weight <= 9; weight++) {
        for (int to : steps) {
          if (to == from) continue;
          SeesawPark x = Due.parkOf("plank 4 3;child 2 1;child 2 1;child " + weight + " 1;");
          x.sits(0, 0, from);
          int before = x.plank(0, 3), held = x.child(0, 4);
          int bumps = x.sits(2, 0, to), after = x.plank(0, 3);
          boolean down = after != 0 && after != before;
          boolean hits = down && Integer.signum(from) == after, hitsNew = down && Integer.signum(to) == after;
          String at = "8 a side COMES DOWN, if it is DOWN then and was not; 2 at " + from + ", then " + weight + " at " + to;
          Due.is(at, bumps, (hits ? 1 : 0) + (hitsNew ? 1 : 0));
          Due.is(at + ": who was there", x.child(0, 4), held + (hits ? 1 : 0));
          Due.is(at + ": who came", x.child(2, 4), hitsNew ? 1 : 0);
          Due.is(at + ": who is nowhere", x.child(1, 4), 0);
        }
      }
    }
    SeesawPark x = Due.parkOf("plank 4 3;child 4 1;child 4 1;child 4 1;");
    Due.is("8 LEVEL, then DOWN", x.sits(0, 0, 1), 1);
    Due.is("8 DOWN, and it was", x.sits(1, 0, 2), 0);
    Due.is("8 DOWN, then LEVEL", x.sits(2, 0, -3), 0);
    Due.is("8 from LEVEL, both on the right", x.leaves(2), 2);
    Due.is("8 from right DOWN to left DOWN", x.sits(2, 0, -4), 1);
    Due.is("8 the other side was not BUMPED", x.child(1, 4), 1);
  }

  private static void asTheyAreThen() {
    SeesawPark x = Due.parkOf("plank 4 0;plank 4 0;child 4 1;child 4 1;child 4 1;stone 4;");
    x.sits(2, 1, -1);
    x.sits(0, 0, -1);
    x.sits(1, 0, 1);
    Due.is("9 as they are then: who left is not BUMPED", x.leaves(0), 1);
    Due.is("9 who left was BUMPED once, before", x.child(0, 4), 1);
    Due.is("9 who stays is BUMPED", x.child(1, 4), 1);
    Due.is("9 a child of another PLANK is not", x.child(2, 4), 1);
    x.lay(0, 0, -1);
    Due.is("11 as a STONE goes, all on that side", x.take(0), 1);
    Due.is("11 BUMPED once more", x.child(1, 4), 2);
    Due.is("10 a STONE that brings down an empty side", x.leaves(1) + x.lay(0, 0, 3), 0);
    Due.is("10 DOWN without a child", x.plank(0, 3), 1);
  }

  private static void changesSeats() {
    String sentence = "who changes SEATS goes first, then comes: twice";
    SeesawPark x = Due.parkOf("plank 2 0;child 5 1;child 5 1;");
    x.sits(0, 0, -1);
    x.sits(1, 0, 1);
    Due.is("8 " + sentence + ": right COMES DOWN, then left", x.sits(0, 0, -2), 2);
    Due.is("8 " + sentence + ": who stayed", x.child(1, 4), 1);
    Due.is("8 " + sentence + ": who came", x.child(0, 4), 2);
    SeesawPark y = Due.parkOf("plank 4 0;child 5 1;");
    y.sits(0, 0, -1);
    Due.is("8 " + sentence + ": alone it is LEVEL between", y.sits(0, 0, -2), 1);
    Due.is("8 " + sentence + ": BUMPED again on the same side", y.child(0, 4), 2);
    SeesawPark v = Due.parkOf("plank 2 0;child 5 1;child 5 1;stone 5;");
    v.sits(0, 0, 1);
    v.sits(1, 0, -1);
    Due.is("8 " + sentence + ": left COMES DOWN, then right", v.sits(0, 0, 2), 2);
    v.leaves(0);
    v.sits(0, 0, 1);
    v.leaves(1);
    v.lay(0, 0, -1);
    Due.is("10 " + sentence + ": a STONE from the left", v.lay(0, 0, -2), 1);
    // As it sat down at 1, at 2, as child 1 left, as the stone goes.
    Due.is("10 " + sentence + ": who sits on the right", v.child(0, 4), 4);
    SeesawPark z = Due.parkOf("plank 4 0;child 5 1;child 5 1;stone 10;");
    z.sits(0, 0, -2);
    z.lay(0, 0, 1);
    z.sits(1, 0, 2);
    // The moment is 10. Without the stone it is level; at 2 it is 20, so right comes down with child 1.
    Due.is("10 " + sentence + ": a STONE", z.lay(0, 0, 2), 1);
    Due.is("10 " + sentence + ": who sits there", z.child(1, 4), 2);
    SeesawPark w = Due.parkOf("plank 1 0;plank 1 0;child 5 1;child 5 1;child 5 1;");
    w.sits(0, 0, -1);
    w.sits(1, 0, 1);
    w.sits(2, 1, 1);
    Due.is("8 " + sentence + ": from PLANK to PLANK, level there", w.sits(0, 1, -1), 1);
    Due.is("8 " + sentence + ": where it went from", w.child(1, 4), 1);
    Due.is("8 " + sentence + ": where it came to", w.child(2, 4), 1);
  }
}
