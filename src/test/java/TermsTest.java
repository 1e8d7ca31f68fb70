/** 'Terms', sentence by sentence, in the document's order: each is quoted, and would show here if it were broken. */
public final class TermsTest {
  private static final Due due = new Due();
  private static final int NONE = -9;
  private static String sentence = "";

  public static void main(String[] args) {
    scalesAndEggs();
    text();
    faults();
    kinds();
    atFirst();
    rolled();
    rolledPast();
    changed();
    undone();
    goesBelongsRight();
    order();
    row();
    reset();
    box();
    tested();
    can();
    tries();
    cracks();
    rates();
    traces();
    images();
    readAnew();
    refused();
    due.end();
  }

  private static void says(String words) {
    sentence = words;
  }

  private static void is(String what, long got, long want) {
    due.is("'" + sentence + "', " + what, got, want);
  }

  private static void fault(String text, int place) {
    is("fault of \"" + text + "\"", Due.told(text), -10 - place);
  }

  private static void reads(String text, int items) {
    is("items of \"" + text + "\"", Due.told(text), items);
  }

  // ======== 1

  private static void scalesAndEggs() {
    says("SCALES 0 .. (5 at most; in this order along THE ROW)");
    EggScales x = Due.barn("s9 0 1;s8 0 1;s7 0 1;s6 0 1;s5 0 1;");
    for (int s = 0; s < 5; s++) {
      is("mark of " + s, x.scale(s, 0), 9 - s);
      is("place of " + s, x.scale(s, 4), s);
    }
    is("scale 5", x.scale(5, 0), -1);
    says("MARK (1 .. 99), STICKS (0 .. 9), ROOM of its tray (1 .. 9)");
    reads("s1 0 1;s99 9 9;", 2);
    fault("s0 0 1;", 1);
    fault("s1 10 1;", 3);
    fault("s1 0 0;", 5);
    fault("s1 0 10;", 5);
    says("EGGS 0 .. (6 at most)");
    EggScales y = Due.barn("e9 0;e8 0;e7 0;e6 0;e5 0;e4 0;");
    for (int e = 0; e < 6; e++) {
      is("weight of " + e, y.egg(e, 0), 9 - e);
    }
    is("egg 6", y.egg(6, 0), -1);
    says("WEIGHT (1 .. 99), KIND (0 .. 5)");
    reads("e1 0;e99 5;", 2);
    fault("e0 0;", 1);
    fault("e1 6;", 3);
  }

  private static void text() {
    says("They are a text (120 letters at most), told letter by letter");
    EggScales x = new EggScales();
    Due.type(x, " ".repeat(112) + "s7 0 2;");
    is("the 120th", x.type(' '), 120);
    is("the 121st", x.type(' '), -3);
    is("items", x.barn(), 1);
    says("blanks (32) between TOKENS");
    reads("s7 0 2;", 1);
    reads(" s  7  0  2  ; ", 1);
    fault("s7\t0 2;", 2);
    fault("s702;", 1);
    says("ITEMS, each ended by ; : s M S R (a SCALE) ; e W K (an EGG).");
    EggScales y = new EggScales();
    Due.type(y, "e50 4;s60 7 8;");
    is("items", y.barn(), 2);
    is("M", y.scale(0, 0), 60);
    is("S", y.scale(0, 1), 7);
    is("R", y.scale(0, 2), 8);
    is("W", y.egg(0, 0), 50);
    is("K", y.egg(0, 1), 4);
    fault("e50 4 s60 7 8;", 6);
    fault("s60 7;", 5);
    fault("e50 4 4;", 6);
    says("TOKENS are the letters s, e, NUMBERS and ; .");
    reads("s1 0 1;e1 0;", 2);
    fault("S1 0 1;", 0);
    fault("s1,0 1;", 2);
    fault("s1 0 1:", 6);
  }

  private static void faults() {
    says("FAULT: the place of the first letter of the first TOKEN that can't stand there");
    fault("  12 0;", 2);
    fault("s;", 1);
    fault("e5 e", 3);
    fault("e5 1;;;", 5);
    says("(a sixth s, a seventh e, a NUMBER beyond what it may be, too)");
    fault("s1 0 1;".repeat(5) + "s1 0 1;", 35);
    fault("e1 0;".repeat(6) + "e1 0;", 30);
    fault("s1 12 1;", 3);
    fault("e1 12;", 3);
    says("of any other letter, a NUMBER above 99 or with a 0 ahead of others, that TOKEN's");
    fault("e5 1;x", 5);
    fault("e5 1x", 4);
    fault("e100 1;", 1);
    fault("e05 1;", 1);
    fault("e5 00;", 3);
    says("the text's length, if it ends too early");
    fault("e", 1);
    fault("e5 1", 4);
    fault("e5 1  ", 6);
    fault("s1 0 1;s2", 9);
  }

  private static void kinds() {
    says("KINDS of EGGS are over one another: 0 EGG; 1 BROWN, 2 DOUBLE, 5 BANTAM (each under EGG); "
        + "3 CRACKED (under BROWN); 4 DUCK (under DOUBLE).");
    long[] bodies = {1, 10 + 1, 100 + 1, 1000 + 10 + 1, 10000 + 100 + 1, 100000 + 1};
    for (int kind = 0; kind < 6; kind++) {
      EggScales x = Due.barn("e50 0;");
      x.rate(kind, 0);
      is("bodies of kind " + kind, x.trace(), bodies[kind]);
    }
    says("An EGG SEEMS as heavy as it is; a DOUBLE (DUCK, too) 3 more; a BANTAM half (cut).");
    int[] seems = {51, 51, 54, 51, 54, 25};
    for (int kind = 0; kind < 6; kind++) {
      is("kind " + kind, Due.barn("e51 " + kind + ";").egg(0, 3), seems[kind]);
    }
  }

  // ======== 2

  private static void atFirst() {
    says("All EGGS are in the NEST, weigh as told; nothing has FALLEN from any SCALE, at first.");
    EggScales x = Due.barn("s9 1 1;s8 1 1;e7 3;e6 5;e5 0;");
    is("nest", x.now(0), 7);
    is("basket", x.now(1), 0);
    is("fallen", x.now(3), 0);
    for (int e = 0; e < 3; e++) {
      is("weight of " + e, x.egg(e, 0), 7 - e);
      is("where is " + e, x.egg(e, 2), 0);
    }
    is("fallen from 0", x.scale(0, 3), 0);
    is("fallen from 1", x.scale(1, 3), 0);
    says("A SCALE is STIFF by how often it let fall by STICKS (cut; 0, if STICKS are 0).");
    EggScales two = fallenTimes("s50 2 9;e50 0;e51 0;e60 0;", 3);
    is("3 by 2: by 1, too light", two.goes(0), NONE);
    is("3 by 2: by 1, heavy enough", two.goes(1), 0);
    is("3 by 0: not at all", fallenTimes("s50 0 9;e50 0;e51 0;e60 0;", 3).goes(0), 0);
    is("3 by 4: not yet", fallenTimes("s50 4 9;e50 0;e51 0;e60 0;", 3).goes(0), 0);
  }

  /** Egg 2 is rolled and taken back, so that scale 0 let fall so often. */
  private static EggScales fallenTimes(String text, int times) {
    EggScales x = Due.barn(text);
    for (int i = 0; i < times; i++) {
      x.rolls(2);
      x.takes(2);
    }
    return x;
  }

  private static void rolled() {
    says("ROLLED: an EGG of the NEST comes to the SCALES of THE ROW, one behind another");
    EggScales x = Due.barn("s50 0 9;s40 0 9;s30 0 9;e60 0;e60 0;");
    is("the first of the row", x.rolls(0), 0);
    is("not of the nest", x.rolls(0), -2);
    x.shifts(0);
    is("the first of the row as it is then", x.rolls(1), 1);
    says("it FALLS into the tray of the first that it makes tip (it SEEMS MARK and STIFF together at least)");
    EggScales y = Due.barn("s50 1 9;s48 0 9;e50 0;e50 0;e48 2;e47 0;");
    is("as heavy as the mark", y.rolls(0), 0);
    is("1 lighter than mark and stiff", y.rolls(1), 1);
    is("seems as heavy as mark and stiff", y.rolls(2), 0);
    is("too light for both", y.goes(3), NONE);
    is("tray 0", y.scale(0, 5), 5);
    is("tray 1", y.scale(1, 5), 2);
    says("and whose tray is not full");
    EggScales z = Due.barn("s50 0 1;s40 0 2;e60 0;e60 0;e60 0;e60 0;");
    is("there is room", z.rolls(0), 0);
    is("room for one was there", z.rolls(1), 1);
    is("room for two", z.rolls(2), 1);
    is("all are full", z.rolls(3), NONE);
    says("(that SCALE let fall once more; 999 at most)");
    is("once", z.scale(0, 3), 1);
    is("twice", z.scale(1, 3), 2);
    is("all", z.now(3), 3);
    // 512 calls do not lead so far; the sentence stands all the same
    is("999 at most", fallenTimes("s1 0 1;e9 0;e9 0;e9 0;", 1001).scale(0, 3), 999);
  }

  private static void rolledPast() {
    says("each that it rolls past makes a CRACKED one 1 lighter (1 at least) ahead of the next one");
    EggScales x = Due.barn("s60 0 9;s50 0 9;s48 0 9;e50 3;e50 1;");
    is("50, then 49, then 48", x.rolls(0), 2);
    is("its weight", x.egg(0, 0), 48);
    is("no cracked one", x.rolls(1), 1);
    is("its weight", x.egg(1, 0), 50);
    EggScales y = Due.barn("s60 0 9;s50 0 9;e2 3;");
    y.rolls(0);
    is("1 at least", y.egg(0, 0), 1);
    EggScales z = Due.barn("s60 0 1;s50 0 9;e60 0;e60 3;");
    z.rolls(0);
    z.rolls(1);
    is("past a full tray", z.egg(1, 0), 59);
    EggScales last = Due.barn("s60 0 1;e50 3;");
    last.rolls(0);
    is("the last that it rolls past", last.egg(0, 0), 49);
    says("past all: it is in the BASKET");
    is("where it is", last.egg(0, 2), 8);
    is("basket", last.now(1), 1);
    is("no scale at all", Due.barn("e99 0;").rolls(0), NONE);
  }

  private static void changed() {
    says("TAKEN back: an EGG of a tray, of the BASKET comes to the NEST.");
    EggScales x = Due.barn("s50 1 9;s40 0 9;e60 0;e30 0;e52 0;");
    x.rolls(0);
    x.rolls(1);
    is("of a tray", x.takes(0), 2);
    is("of the basket", x.takes(1), 3);
    is("nest", x.now(0), 7);
    is("basket", x.now(1), 0);
    is("tray", x.scale(0, 5), 0);
    is("what has fallen stays", x.scale(0, 3), 1);
    EggScales leaky = Due.barn("s60 0 9;s40 0 9;e50 3;e50 0;");
    leaky.rolls(0);
    leaky.takes(0);
    is("what has leaked is gone", leaky.egg(0, 0), 49);
    leaky.drops(1);
    is("one that is nowhere", leaky.takes(1), -2);
    says("WIPED: a SCALE never let fall.");
    x.rolls(0);
    is("it is stiff by 2", x.sets(0, 51), 50);
    is("too light", x.goes(2), 1);
    is("twice till then", x.wipes(0), 2);
    is("never", x.scale(0, 3), 0);
    is("not stiff", x.goes(2), 0);
    is("the egg is in its tray", x.scale(0, 5), 1);
    EggScales both = Due.barn("s60 0 9;s40 0 9;e70 0;e50 0;");
    both.rolls(0);
    both.rolls(1);
    both.wipes(0);
    is("the other let fall", both.scale(1, 3), 1);
    says("SET: a SCALE gets another MARK.");
    is("till then", x.sets(0, 53), 51);
    is("mark", x.scale(0, 0), 53);
    is("too light now", x.goes(2), 1);
    is("the other's mark", x.scale(1, 0), 40);
    says("SHIFTED: a SCALE changes places in THE ROW with the one behind it.");
    x.sets(0, 50);
    is("its place", x.shifts(0), 1);
    is("the other's place", x.scale(1, 4), 0);
    is("the other comes first", x.goes(2), 1);
    says("DROPPED: an EGG is nowhere any more.");
    is("where it was", x.drops(0), 1);
    is("where it is", x.egg(0, 2), 9);
    is("tray", x.scale(0, 5), 0);
    is("of the nest", x.drops(1), 0);
    is("nest", x.now(0), 4);
  }

  private static void undone() {
    says("UNDONE: the latest rolls(), takes(), wipes(), sets(), shifts(), drops() that was not refused");
    EggScales x = Due.barn("s60 1 9;s40 0 9;e50 3;e70 0;");
    x.rolls(0);
    x.takes(0);
    x.rolls(1);
    x.wipes(0);
    x.sets(0, 99);
    x.shifts(0);
    x.drops(1);
    x.drops(1);
    x.sets(0, 0);
    is("drops()", x.undo(), 6);
    is("it is in its tray", x.egg(1, 2), 1);
    is("shifts()", x.undo(), 5);
    is("its place", x.scale(0, 4), 0);
    is("sets()", x.undo(), 4);
    is("its mark", x.scale(0, 0), 60);
    is("wipes()", x.undo(), 3);
    is("it let fall", x.scale(0, 3), 1);
    is("rolls()", x.undo(), 2);
    is("it is in the nest", x.egg(1, 2), 0);
    is("it did not let fall", x.scale(0, 3), 0);
    is("takes()", x.undo(), 1);
    is("it is in its tray", x.egg(0, 2), 2);
    is("the first rolls()", x.undo(), 0);
    is("it weighs as told", x.egg(0, 0), 50);
    is("none more", x.undo(), -2);
    says("(10 are known, older ones are lost)");
    EggScales y = Due.barn("s1 0 1;");
    for (int mark = 2; mark <= 12; mark++) {
      y.sets(0, mark);
    }
    is("known", y.now(4), 10);
    for (int more = 9; more >= 0; more--) {
      is("more", y.undo(), more);
    }
    is("lost", y.undo(), -2);
    is("the second mark", y.scale(0, 0), 2);
  }

  // ======== 3 (that nothing is changed: RefusedTest, asksChangeNothing)

  private static void goesBelongsRight() {
    says("(As things are NOW; nothing is changed.)");
    EggScales x = Due.barn("s50 1 1;s40 0 9;e60 0;e60 3;e47 2;e30 0;");
    is("goes", x.goes(0), 0);
    is("nest", x.now(0), 15);
    x.rolls(0);
    says("GOES of an EGG of the NEST: the SCALE from which it would FALL; NONE: the BASKET.");
    is("tray 0 is full", x.goes(1), 1);
    is("too light", x.goes(3), NONE);
    is("not of the nest", x.goes(0), -2);
    is("it has not leaked", x.egg(1, 0), 60);
    says("BELONGS of an EGG (wherever it is): the first SCALE of THE ROW whose MARK is no more than its WEIGHT; "
        + "NONE: the BASKET.");
    is("in the tray", x.egg(0, 4), 0);
    is("in the nest, whatever is full", x.egg(1, 4), 0);
    is("by its weight, not by what it seems", x.egg(2, 4), 1);
    is("the basket", x.egg(3, 4), NONE);
    x.sets(1, 47);
    is("no more than its weight", x.egg(2, 4), 1);
    x.drops(2);
    is("nowhere", x.egg(2, 4), 1);
    x.shifts(0);
    is("the first of the row", x.egg(0, 4), 1);
    x.undo();
    x.sets(0, 61);
    is("the mark as it is now", x.egg(0, 4), 1);
    x.undo();
    EggScales leaky = Due.barn("s60 0 9;s50 0 9;e50 3;");
    leaky.rolls(0);
    is("the weight as it is now", leaky.egg(0, 4), NONE);
    says("RIGHT: EGGS (bits) in trays, in the BASKET that are where they BELONG.");
    is("in the tray", x.now(2), 1);
    x.rolls(1);
    is("in another tray", x.now(2), 1);
    x.rolls(3);
    is("in the basket", x.now(2), 9);
    x.takes(3);
    is("in the nest", x.now(2), 1);
    x.drops(3);
    is("nowhere", x.now(2), 1);
    x.drops(0);
    is("none", x.now(2), 0);
  }

  private static void order() {
    says("ORDER: of all orders in which all EGGS of the NEST are ROLLED that by which most EGGS are RIGHT then, "
        + "of several the first (the lowest EGG first, then the second ..)");
    EggScales x = Due.barn("s50 1 9;e52 0;e51 0;e50 0;e90 0;e20 0;");
    x.rolls(3);
    x.wipes(0);
    x.drops(4);
    // 50 must be first, then 51; all three fall by no other order
    orderIs(x, 4, 2, 1, 0);
    EggScales y = Due.barn("s50 0 9;e60 0;e30 0;e55 0;");
    orderIs(y, 3, 0, 1, 2);
    EggScales z = Due.barn("s50 1 9;e50 0;e52 0;e51 0;");
    orderIs(z, 3, 0, 2, 1);
    says("the k-th EGG; NONE.");
    is("no eggs", Due.barn("s50 1 9;").order(0), NONE);
    is("behind the last", y.order(3), NONE);
  }

  private static void orderIs(EggScales x, int right, int... eggs) {
    is("how many", x.order(-1), right);
    for (int k = 0; k < eggs.length; k++) {
      is("egg " + k, x.order(k), eggs[k]);
    }
  }

  private static void row() {
    says("ROW: of all orders of SCALES that by which, all EGGS of the NEST being ROLLED by numbers, most are RIGHT then "
        + "(as BELONGS is by that order), of several the first: how many; the k-th SCALE.");
    EggScales x = Due.barn("s50 0 1;s40 0 9;s60 0 9;e55 0;e55 0;");
    // with scale 0 ahead of scale 1 one of them finds no room
    is("how many", x.row(-1), 2);
    is("the first of several", x.row(0) * 100 + x.row(1) * 10 + x.row(2), 102);
    EggScales y = Due.barn("s50 1 9;s51 0 9;e60 0;e50 0;");
    // by numbers: 60 makes scale 0 stiff for 50, unless it falls from scale 1
    is("by numbers, how many", y.row(-1), 2);
    is("by numbers", y.row(0) * 10 + y.row(1), 10);
    EggScales z = Due.barn("s50 0 9;s40 0 9;e60 0;");
    z.rolls(0);
    z.shifts(0);
    is("as it is, it is not right", z.now(2), 0);
    is("by that order it is", z.row(-1), 1);
    is("by that order", z.row(0) * 10 + z.row(1), 1);
  }

  private static void reset() {
    says("RESET of an EGG of the NEST, a SCALE: the fewest grams by which MARKS (1 .. 99 each) of all SCALES must be "
        + "changed, together, so that it would FALL from that one");
    EggScales x = Due.barn("s50 1 1;s70 0 9;s40 0 9;e60 0;e99 0;e1 5;e55 3;e60 0;");
    is("it falls from it", x.reset(0, 0), 0);
    is("11 and 10", x.reset(0, 1), 21);
    is("11 alone", x.reset(0, 2), 11);
    is("6, past 70 for nothing", x.reset(3, 2), 6);
    is("6, and 16 of 54 grams", x.reset(3, 1), 22);
    is("marks stay", x.scale(0, 0), 50);
    is("99 can't roll past", x.reset(1, 1), NONE);
    says("NONE (it can't: its tray is full; no MARKS are such).");
    is("seems 0", x.reset(2, 2), NONE);
    x.rolls(4);
    is("its tray is full", x.reset(0, 0), NONE);
    is("past the full one", x.reset(1, 1), 0);
    is("past the full one, 10", x.reset(0, 1), 10);
    x.takes(4);
    is("stiff by 1: 10 and 10", x.reset(0, 1), 20);
    x.shifts(0);
    is("the first of the row as it is", x.reset(0, 1), 10);
  }

  private static void box() {
    says("BOX of n (1 .. 6), w (0 .. 600): of all sets of n EGGS that are in trays, of w grams together or more, that of "
        + "fewest grams, of several the least bits: which (bits); how many grams over; NONE.");
    EggScales x = Due.barn("s50 0 2;s40 0 9;e60 0;e55 0;e45 0;e50 0;e30 0;e99 0;");
    for (int e = 0; e < 5; e++) {
      x.rolls(e);
    }
    is("which: 55 and 45, not 60 and 45", x.box(2, 100, 0), 6);
    is("over", x.box(2, 100, 1), 0);
    is("60 and 45, 55 and 50: the least bits", x.box(2, 101, 0), 5);
    is("over", x.box(2, 101, 1), 4);
    is("one, not of the basket nor of the nest", x.box(1, 0, 0), 4);
    is("none so heavy", x.box(1, 61, 0), NONE);
    is("none so heavy, over", x.box(1, 61, 1), NONE);
    is("not so many in trays", x.box(5, 0, 0), NONE);
    is("n of 0", x.box(0, 0, 0), -1);
    is("n of 7", x.box(7, 0, 0), -1);
    is("w of -1", x.box(1, -1, 0), -1);
    is("w of 601", x.box(1, 601, 0), -1);
    is("w of 600", x.box(6, 600, 0), NONE);
    says("BOXES: how many such sets at most, no EGG in two.");
    is("two of 100", x.boxes(2, 100), 2);
    is("two of 106: 60 is in one alone", x.boxes(2, 106), 1);
    is("one of 50", x.boxes(1, 50), 3);
    is("none", x.boxes(5, 0), 0);
  }

  private static void tested() {
    says("TESTED (6 at most)");
    EggScales x = Due.barn("s50 1 1;s40 1 1;e60 0;e60 0;");
    for (int i = 1; i <= 6; i++) {
      is("the " + i + ".", x.tested(60, 0), i);
    }
    is("the 7.", x.tested(60, 0), -3);
    says("with MARKS as told, nothing FALLEN, empty trays of any ROOM, SCALES in order 0, 1 .., a test egg (an EGG of "
        + "KIND 0) of g grams FELL from a SCALE, or came to the BASKET.");
    x.forget();
    x.rolls(0);
    x.sets(0, 80);
    x.shifts(0);
    x.tested(50, 0);
    x.tested(49, 1);
    x.tested(40, 1);
    x.tested(39, NONE);
    canIs(x, 1, 0, 1);
    x.tested(50, 0);
    x.tested(50, 0);
    canIs(x, 1, 0, 1);
  }

  private static void can() {
    says("One SCALE at most is OFF by d grams (-9 .. -1, 1 .. 9: it tips at its MARK and d together).");
    EggScales x = Due.barn("s60 0 1;s30 0 1;");
    x.tested(51, 0);
    canIs(x, 1, 1, 0);
    x.forget();
    x.tested(50, 0);
    canIs(x, 0, 0, 0);
    x.forget();
    x.tested(38, NONE);
    canIs(x, 1, 2, 0);
    x.forget();
    x.tested(39, NONE);
    canIs(x, 0, 0, 0);
    x.forget();
    x.tested(55, 0);
    x.tested(35, NONE);
    canIs(x, 0, 0, 0);
    says("CAN: by none OFF, by any one SCALE OFF by any d all that was TESTED is so: in how many of these ways; SCALES "
        + "that can be OFF (bits); whether none may be (1, 0).");
    x.forget();
    canIs(x, 37, 3, 1);
    x.tested(60, 0);
    // none; scale 0 by -9 .. -1; scale 1 by any
    canIs(x, 28, 3, 1);
    x.tested(30, 1);
    // none; scale 0 by -9 .. -1; scale 1 by -9 .. -1
    canIs(x, 19, 3, 1);
    x.tested(58, 0);
    canIs(x, 8, 1, 0);
  }

  private static void canIs(EggScales x, int ways, int scales, int none) {
    is("ways behind " + x.count(2), x.can(0), ways);
    is("scales behind " + x.count(2), x.can(1), scales);
    is("none behind " + x.count(2), x.can(2), none);
  }

  private static void tries() {
    says("TRY: the g (1 .. 99) by which the greater of all parts of these ways, by where it would go, is smallest, of "
        + "several the lowest");
    EggScales x = Due.barn("s50 0 1;");
    is("19 ways of 41 .. 59: 9 and 10 by 49, 10 and 9 by 50", x.next(), 49);
    x.tested(49, NONE);
    is("10 ways of 50 .. 59: 5 and 5 by 54", x.next(), 54);
    x.tested(54, 0);
    is("5 ways of 50 .. 54: 2 and 3 by 51, 3 and 2 by 52", x.next(), 51);
    says("NONE (one way can be at most).");
    x.tested(50, 0);
    is("one way", x.next(), NONE);
    x.tested(49, 0);
    is("no way", x.next(), NONE);
  }

  private static void cracks() {
    says("CRACKS by x (0 .. 10), k (0 .. 6): each EGG of the NEST that is not CRACKED cracks by x of 10, for itself: that "
        + "k at most do: a fraction.");
    EggScales x = Due.barn("s50 0 9;e60 0;e40 0;e40 3;e40 5;");
    x.rolls(0);
    // two are left: .49, and .42 for one of them
    crackIs(x, 3, 0, 49, 100);
    crackIs(x, 3, 1, 91, 100);
    crackIs(x, 3, 2, 1, 1);
    crackIs(x, 5, 1, 3, 4);
    crackIs(x, 0, 0, 1, 1);
    crackIs(x, 10, 1, 0, 1);
    crackIs(x, 10, 6, 1, 1);
    is("x of 11", x.cracks(11, 0, 0), -1);
    is("x of -1", x.cracks(-1, 0, 0), -1);
    is("k of 7", x.cracks(0, 7, 0), -1);
    is("k of -1", x.cracks(0, -1, 0), -1);
  }

  private static void crackIs(EggScales x, int by, int k, int upper, int lower) {
    is("upper by " + by + ", " + k, x.cracks(by, k, 0), upper);
    is("lower by " + by + ", " + k, x.cracks(by, k, 1), lower);
  }

  // ======== 4

  private static void rates() {
    EggScales x = Due.barn("s50 0 9;s40 0 9;e60 2;e45 0;e44 5;e60 1;");
    x.rolls(0);
    x.rolls(1);
    x.takes(1);
    says("RATE of an EGG as if of a KIND");
    is("its own kind does not matter", x.rate(0, 0), 60);
    says("EGG its WEIGHT (1).");
    is("45", x.rate(0, 1), 45);
    EggScales leaky = Due.barn("s60 0 9;e50 3;");
    leaky.rolls(0);
    is("what is left", leaky.rate(0, 0), 49);
    says("BROWN up, and how many EGGS are where it is (10).");
    is("three in the nest", x.rate(1, 1), 48);
    is("one in the tray", x.rate(1, 0), 61);
    says("DOUBLE up less how many SCALES there are (100).");
    is("two scales", x.rate(2, 1), 43);
    says("CRACKED twice up (1000).");
    is("twice 48", x.rate(3, 1), 96);
    says("DUCK up, and its number (10000).");
    is("43 and 1", x.rate(4, 1), 44);
    is("58 and 3", x.rate(4, 3), 61);
    says("BANTAM up, and how often all SCALES let fall (100000).");
    is("45 and 2", x.rate(5, 1), 47);
    says("`NO = -1000000`: What is BAD, where a number may be below 0.");
    is("below 0", Due.barn("s1 0 1;s1 0 1;e1 0;").rate(2, 0), -1);
    is("no such kind", x.rate(6, 0), -1000000);
    is("no such egg", x.rate(0, 4), -1000000);
  }

  private static void traces() {
    says("(numbers in brackets are added to THE TRACE, 0 at first, as often as rate() asks that body: each once; \"up\" is "
        + "what the KIND above does)");
    EggScales x = Due.barn("e60 0;");
    is("at first", x.trace(), 0);
    x.rate(3, 0);
    is("cracked, brown, egg", x.trace(), 1011);
    x.rate(3, 0);
    is("twice", x.trace(), 2022);
    x.rate(4, 0);
    is("duck, double, egg", x.trace(), 12123);
    x.rate(5, 0);
    is("bantam, egg", x.trace(), 112124);
    x.rate(6, 0);
    is("none by what is refused", x.trace(), 112124);
  }

  private static void images() {
    says("IMAGES 0, 1 keep NOW (where EGGS are, WEIGHTS, MARKS, THE ROW, what has FALLEN)");
    EggScales x = Due.barn("s60 0 9;s40 0 9;e50 3;e70 0;e20 0;");
    is("image 0, nest", x.keep(0), 3);
    x.rolls(0);
    x.sets(0, 65);
    x.shifts(0);
    is("image 1, nest", x.keep(1), 2);
    is("image 2", x.keep(2), -1);
    is("image 0 comes back", x.back(0), 3);
    floorIs(x, 0, 50, 60, 0, 0);
    is("image 1 comes back", x.back(1), 2);
    floorIs(x, 2, 49, 65, 1, 1);
    says("nothing else (nothing can be UNDONE behind back()).");
    x.sets(0, 70);
    x.tested(9, NONE);
    x.rate(0, 0);
    x.type('e');
    is("known", x.now(4), 1);
    x.back(1);
    is("known then", x.now(4), 0);
    is("undo()", x.undo(), -2);
    is("tests", x.count(2), 1);
    is("trace", x.trace(), 1);
    is("text", x.count(3), 1);
  }

  private static void floorIs(EggScales x, int where, int weight, int mark, int place, int fallen) {
    is("where egg 0 is", x.egg(0, 2), where);
    is("what it weighs", x.egg(0, 0), weight);
    is("mark of scale 0", x.scale(0, 0), mark);
    is("its place", x.scale(0, 4), place);
    is("fallen from scale 1", x.scale(1, 3), fallen);
  }

  private static void readAnew() {
    says("(Read anew: as told, nothing TESTED, IMAGES are gone.)");
    EggScales x = Due.barn("s60 0 9;s40 0 9;e70 0;e50 3;");
    x.rolls(0);
    x.rolls(1);
    x.sets(0, 65);
    x.shifts(0);
    x.tested(9, NONE);
    x.keep(0);
    x.keep(1);
    Due.type(x, "s60 0 9;s40 0 9;e70 0;e50 3;");
    is("items", x.barn(), 4);
    is("nest", x.now(0), 3);
    is("fallen", x.now(3), 0);
    is("known", x.now(4), 0);
    is("mark", x.scale(0, 0), 60);
    is("place", x.scale(0, 4), 0);
    is("weight", x.egg(1, 0), 50);
    is("tests", x.count(2), 0);
    is("ways", x.can(0), 37);
    is("image 0", x.back(0), -2);
    is("image 1", x.back(1), -2);
  }

  /** RefusedTest has the whole of it. */
  private static void refused() {
    says("Refused, and nothing changes, the first of these: BAD (a number is not as told, or there is no such thing), "
        + "STATE (as told), FULL.");
    EggScales x = Due.barn("s50 0 9;e60 0;");
    x.rolls(0);
    is("a number is not as told", x.sets(0, 100), -1);
    is("there is no such thing", x.rolls(1), -1);
    is("STATE", x.rolls(0), -2);
    is("BAD ahead of STATE", x.reset(0, 1), -1);
    for (int i = 0; i < 6; i++) {
      x.tested(9, NONE);
    }
    is("FULL", x.tested(9, NONE), -3);
    is("BAD ahead of FULL", x.tested(9, 1), -1);
    is("tests", x.count(2), 6);
    is("known", x.now(4), 1);
    is("mark", x.scale(0, 0), 50);
  }
}
