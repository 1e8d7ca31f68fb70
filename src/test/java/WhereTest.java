/** Promises 15 to 19: goes, order, row, reset, cracks. */
public final class WhereTest {
  private static final Due due = new Due();

  public static void main(String[] args) {
    goes();
    order();
    orderEdges();
    asksAnew();
    row();
    rowEdges();
    reset();
    resetCan();
    cracks();
    due.end();
  }

  private static void goes() {
    EggScales x = Due.barn("s50 1 1;s40 0 1;e60 3;e50 0;e45 3;e20 3;");
    due.is("15: falls", x.goes(0), 0);
    due.is("15: the second", x.goes(2), 1);
    due.is("15: the basket", x.goes(3), -9);
    due.is("15: weighs as before", x.egg(2, 0) + x.egg(3, 0), 65);
    due.is("15: nothing fell", x.now(3), 0);
    due.is("15: nothing to undo", x.now(4), 0);
    due.is("15: all in the nest", x.now(0), 15);
    x.rolls(0);
    due.is("15: not of the nest", x.goes(0), -2);
    due.is("15: tray full", x.goes(1), 1);
    x.takes(0);
    due.is("15: stiff", x.goes(1), 1);
    x.drops(1);
    due.is("15: nowhere", x.goes(1), -2);
    due.is("15: goes(4), of four", x.goes(4), -1);
    due.is("15: goes(-1)", x.goes(-1), -1);
    due.is("15: goes(most)", x.goes(Integer.MAX_VALUE), -1);
  }

  private static void orderIs(String what, EggScales x, int many, int... eggs) {
    due.is("16: " + what + ", how many", x.order(-1), many);
    for (int k = 0; k < 6; k++) {
      due.is("16: " + what + ", order(" + k + ")", x.order(k), k < eggs.length ? eggs[k] : -9);
    }
  }

  private static void order() {
    // by numbers egg 0 makes scale 0 stiff, so that egg 1 rolls on
    orderIs("the light one first", Due.barn("s50 1 9;e51 0;e50 0;"), 2, 1, 0);
    orderIs("by numbers, of several", Due.barn("s50 0 9;e51 0;e50 0;e49 0;"), 3, 0, 1, 2);
    // one place: egg 1 alone belongs to it and is heavy enough; egg 0 seems so
    orderIs("one place", Due.barn("s50 0 1;e47 2;e50 0;"), 2, 1, 0);
    EggScales x = Due.barn("s50 1 9;e51 0;e50 0;e49 0;e60 0;e10 0;");
    x.rolls(3);
    x.drops(4);
    orderIs("eggs in trays count", x, 3, 0, 1, 2);
    due.is("16: nothing changes", x.now(0), 7);
    due.is("16: nothing fell", x.now(3), 1);
    due.is("16: nothing to undo", x.now(4), 2);
    // behind egg 1, egg 0 leaks at the full tray and belongs to the second then
    orderIs("cracked ones weigh less then", Due.barn("s60 0 1;s50 0 1;e60 3;e60 0;"), 2, 1, 0);
    // egg 0 seems 60: ahead of egg 1 it would take its place
    orderIs("three", Due.barn("s60 0 1;s50 0 1;e57 2;e60 0;e55 0;"), 2, 1, 0, 2);
  }

  private static void orderEdges() {
    orderIs("no eggs", new EggScales(), 0);
    EggScales x = Due.barn("s50 0 9;e60 0;");
    x.rolls(0);
    orderIs("an empty nest", x, 1);
    due.is("16: order(-2)", x.order(-2), -1);
    due.is("16: order(6)", x.order(6), -1);
    due.is("16: order(most)", x.order(Integer.MAX_VALUE), -1);
    due.is("16: order(least)", x.order(Integer.MIN_VALUE), -1);
    // each that falls makes it 1 stiffer: egg 0 may be first, if the others come the lightest first
    orderIs("six", Due.barn("s50 1 9;e56 0;e55 0;e54 0;e53 0;e52 0;e51 0;"), 6, 0, 5, 4, 3, 2, 1);
  }

  private static void asksAnew() {
    EggScales x = Due.barn("s50 0 9;e60 0;e55 0;e52 3;");
    orderIs("ahead of a change", x, 3, 0, 1, 2);
    rowIs("ahead of a change", x, 3, 0);
    x.drops(2);
    x.drops(0);
    orderIs("behind a change for the worse", x, 1, 1);
    rowIs("behind a change for the worse", x, 1, 0);
  }

  private static void rowIs(String what, EggScales x, int many, int... scales) {
    due.is("17: " + what + ", how many", x.row(-1), many);
    for (int k = 0; k < 7; k++) {
      due.is("17: " + what + ", row(" + k + ")", x.row(k), k < scales.length ? scales[k] : -1);
    }
  }

  private static void row() {
    rowIs("as it is, of several", Due.barn("s50 0 9;s40 0 9;e60 0;e45 0;"), 2, 0, 1);
    // tray 0 has room for one alone: the second belongs to it as well, but not if scale 1 is first
    rowIs("the roomy one first", Due.barn("s50 0 1;s40 0 9;e60 0;e60 0;"), 2, 1, 0);
    EggScales x = Due.barn("s50 0 1;s40 0 9;e60 0;e60 0;e60 0;");
    x.rolls(0);
    rowIs("eggs in trays belong by that order", x, 2, 1, 0);
    x.shifts(0);
    x.drops(1);
    x.drops(2);
    rowIs("by scales' numbers, not by the row as it is", x, 1, 0, 1);
    due.is("17: the row stays", x.scale(0, 4), 1);
    due.is("17: nothing to undo but what was done", x.now(4), 4);
    rowIs("three", Due.barn("s60 0 1;s50 0 1;s40 0 9;e65 0;e65 0;e65 0;"), 3, 2, 0, 1);
  }

  private static void rowEdges() {
    // each tray has room for one: by marks going down, each egg finds its own
    rowIs("five scales, six eggs",
        Due.barn("s10 0 1;s20 0 1;s30 0 1;s40 0 1;s50 0 1;e55 0;e45 0;e35 0;e25 0;e15 0;e5 0;"), 6, 4, 3, 2, 1, 0);
    rowIs("no scales", Due.barn("e5 0;e6 0;"), 2);
    rowIs("nothing at all", new EggScales(), 0);
    rowIs("no eggs", Due.barn("s1 0 1;s2 0 1;s3 0 1;s4 0 1;s5 0 1;"), 0, 0, 1, 2, 3, 4);
    EggScales x = Due.barn("s50 0 9;e60 0;");
    due.is("17: row(-2)", x.row(-2), -1);
    due.is("17: row(most)", x.row(Integer.MAX_VALUE), -1);
    due.is("17: row(least)", x.row(Integer.MIN_VALUE), -1);
  }

  private static void reset() {
    EggScales x = Due.barn("s50 2 1;s40 0 2;s30 0 2;e60 0;e45 0;e45 3;e99 2;e1 5;e50 0;");
    due.is("18: it falls there", x.reset(0, 0), 0);
    due.is("18: 11 more on the first", x.reset(0, 1), 11);
    due.is("18: 11 and 21 more", x.reset(0, 2), 32);
    due.is("18: 5 less", x.reset(1, 0), 5);
    due.is("18: 45 and then 44 grams, 5 more", x.reset(2, 2), 5);
    due.is("18: too heavy for a mark of 99", x.reset(3, 1), -9);
    due.is("18: heavy enough", x.reset(3, 0), 0);
    due.is("18: seems 0", x.reset(4, 0), -9);
    x.rolls(0);
    due.is("18: its tray is full", x.reset(5, 0), -9);
    due.is("18: past a full one for nothing", x.reset(5, 1), 0);
    due.is("18: not of the nest", x.reset(0, 0), -2);
    x.drops(0);
    due.is("18: nowhere", x.reset(0, 0), -2);
    x.rolls(5);
    x.takes(5);
    due.is("18: stiff by 1: 1 less", x.reset(5, 0), 1);
    due.is("18: stiff by 1: it rolls on", x.reset(5, 1), 0);
    due.is("18: marks stay", x.scale(0, 0), 50);
    x.shifts(0);
    due.is("18: by the row as it is", x.reset(5, 0), 12);
    for (int[] bad : new int[][] {{-1, 0}, {6, 0}, {0, -1}, {0, 3}, {Integer.MAX_VALUE, 0}, {1, Integer.MIN_VALUE}}) {
      due.is("18: reset(" + bad[0] + ", " + bad[1] + ")", x.reset(bad[0], bad[1]), -1);
    }
  }

  private static void resetCan() {
    EggScales x = Due.barn("s99 1 9;s1 1 9;e98 0;e99 0;e96 2;e95 2;e1 0;");
    due.is("18: 98 rolls past 99", x.reset(0, 1), 0);
    due.is("18: 99 can't", x.reset(1, 1), -9);
    due.is("18: 96 and 3 can't", x.reset(2, 1), -9);
    due.is("18: 95 and 3 can", x.reset(3, 1), 0);
    due.is("18: to 1", x.reset(4, 0), 98);
    x.rolls(1);
    due.is("18: 96 and 3 can, stiff by 1", x.reset(2, 1), 0);
    due.is("18: 1 can't, stiff by 1", x.reset(4, 0), -9);
  }

  private static void crackIs(EggScales x, int by, int k, int upper, int lower) {
    due.is("19: cracks(" + by + ", " + k + ", 0)", x.cracks(by, k, 0), upper);
    due.is("19: cracks(" + by + ", " + k + ", 1)", x.cracks(by, k, 1), lower);
  }

  private static void cracks() {
    EggScales x = Due.barn("s50 0 9;e10 0;e10 1;e10 2;e10 4;e10 5;e10 0;");
    crackIs(x, 0, 0, 1, 1);
    crackIs(x, 10, 5, 0, 1);
    crackIs(x, 10, 6, 1, 1);
    crackIs(x, 5, 0, 1, 64);
    crackIs(x, 5, 1, 7, 64);
    crackIs(x, 5, 2, 11, 32);
    crackIs(x, 5, 6, 1, 1);
    crackIs(x, 1, 0, 531441, 1000000);
    crackIs(x, 3, 5, 999271, 1000000);
    x.rolls(0);
    x.drops(1);
    crackIs(x, 2, 0, 256, 625);
    crackIs(x, 2, 1, 512, 625);
    EggScales y = Due.barn("e10 3;e10 3;e10 1;");
    crackIs(y, 5, 0, 1, 2);
    crackIs(y, 4, 0, 3, 5);
    crackIs(y, 7, 0, 3, 10);
    crackIs(y, 7, 1, 1, 1);
    crackIs(new EggScales(), 10, 0, 1, 1);
    for (int[] bad : new int[][] {{-1, 0, 0}, {11, 0, 0}, {0, -1, 0}, {0, 7, 0}, {0, 0, -1}, {0, 0, 2},
        {Integer.MIN_VALUE, 0, 0}, {0, Integer.MAX_VALUE, 1}}) {
      due.is("19: BAD", y.cracks(bad[0], bad[1], bad[2]), -1);
    }
  }
}
