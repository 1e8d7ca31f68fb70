/** Promises 26 to 30: each sentence that names an edge. */
public final class KindEdgeTest {
  private static final Due due = new Due();

  public static void main(String[] args) {
    ratesOfTheLeast();
    ratesOfTheMost();
    ratesAsIfOfAnyKind();
    brownByWhereItIs();
    bantamByAllFalls();
    ratesByWeightAsItIs();
    refusedRatesLeaveNoTrace();
    tracesEachBodyOnce();
    traceStays();
    imagesOfEachPlace();
    imagesKeptOver();
    imagesOfNothing();
    imagesGoneWhenReadAnew();
    imagesLeaveNothingToUndo();
    countsAtTheirBounds();
    due.end();
  }

  private static void rateIs(String what, EggScales x, int e, int... want) {
    for (int kind = 0; kind < 6; kind++) {
      due.is("26: " + what + ", rate(" + kind + ", " + e + ")", x.rate(kind, e), want[kind]);
    }
  }

  private static void ratesOfTheLeast() {
    rateIs("1 gram, no scales", Due.barn("e1 0;"), 0, 1, 2, 1, 4, 1, 1);
    rateIs("1 gram, five scales", Due.barn("s1 0 1;".repeat(5) + "e1 0;"), 0, 1, 2, -4, 4, -4, 1);
    rateIs("1 gram, one scale", Due.barn("s1 0 1;e1 0;"), 0, 1, 2, 0, 4, 0, 1);
  }

  private static void ratesOfTheMost() {
    EggScales x = Due.barn("s1 0 9;".repeat(5) + "e99 0;".repeat(6));
    rateIs("99 grams, six eggs, five scales", x, 0, 99, 105, 94, 210, 94, 99);
    rateIs("the last egg", x, 5, 99, 105, 94, 210, 99, 99);
    for (int e = 0; e < 6; e++) {
      x.rolls(e);
    }
    rateIs("six fell", x, 5, 99, 105, 94, 210, 99, 105);
  }

  /** 'RATE of an EGG as if of a KIND': its own kind does not matter. */
  private static void ratesAsIfOfAnyKind() {
    for (int kind = 0; kind < 6; kind++) {
      rateIs("an egg of kind " + kind, Due.barn("s50 0 9;s40 0 9;e9 0;e60 " + kind + ";"), 1, 60, 62, 58, 124, 59, 60);
    }
  }

  private static void brownByWhereItIs() {
    EggScales x = Due.barn("s50 0 9;e60 0;e60 0;e60 0;e40 0;e40 0;e60 0;");
    due.is("26: six in the nest", x.rate(1, 0), 66);
    x.rolls(0);
    due.is("26: one in the tray", x.rate(1, 0), 61);
    x.rolls(1);
    due.is("26: two in the tray", x.rate(1, 0), 62);
    x.rolls(3);
    due.is("26: one in the basket", x.rate(1, 3), 41);
    x.rolls(4);
    due.is("26: two in the basket", x.rate(1, 4), 42);
    due.is("26: two in the nest", x.rate(1, 2), 62);
    x.drops(5);
    due.is("26: one nowhere", x.rate(1, 5), 61);
    x.drops(1);
    due.is("26: two nowhere", x.rate(1, 1), 62);
    due.is("26: twice that", x.rate(3, 1), 124);
    due.is("26: one in the tray again", x.rate(1, 0), 61);
  }

  private static void bantamByAllFalls() {
    EggScales x = Due.barn("s60 0 9;s50 0 9;e60 0;e55 0;e10 0;");
    due.is("26: nothing fell", x.rate(5, 2), 10);
    x.rolls(0);
    x.rolls(1);
    x.rolls(2);
    due.is("26: one fell from each, one rolled past", x.rate(5, 2), 12);
    x.takes(0);
    due.is("26: taken back", x.rate(5, 2), 12);
    x.wipes(0);
    due.is("26: one is wiped", x.rate(5, 2), 11);
    x.undo();
    due.is("26: undone", x.rate(5, 2), 12);
  }

  private static void ratesByWeightAsItIs() {
    EggScales x = Due.barn("s99 0 9;s1 0 9;e50 3;e50 2;e50 5;");
    x.rolls(0);
    due.is("26: what leaked is gone", x.rate(0, 0), 49);
    due.is("26: its weight, not what it seems", x.rate(0, 1), 50);
    due.is("26: its weight, not half", x.rate(0, 2), 50);
  }

  private static void refusedRatesLeaveNoTrace() {
    EggScales x = Due.barn("e50 0;");
    for (int[] bad : new int[][] {{-1, 0}, {6, 0}, {0, -1}, {0, 1}, {5, 1}, {-1, -1}, {6, 1},
        {Integer.MIN_VALUE, 0}, {Integer.MAX_VALUE, 0}, {0, Integer.MIN_VALUE}, {0, Integer.MAX_VALUE}}) {
      due.is("26: rate(" + bad[0] + ", " + bad[1] + ")", x.rate(bad[0], bad[1]), -1000000);
      due.is("30: no trace of it", x.trace(), 0);
    }
    due.is("26: no eggs", new EggScales().rate(0, 0), -1000000);
  }

  private static void tracesEachBodyOnce() {
    long[] adds = {1, 11, 101, 1011, 10101, 100001};
    for (int kind = 0; kind < 6; kind++) {
      EggScales x = Due.barn("e50 0;");
      due.is("30: 0 at first", x.trace(), 0);
      x.rate(kind, 0);
      due.is("30: kind " + kind, x.trace(), adds[kind]);
      x.rate(kind, 0);
      due.is("30: kind " + kind + " twice", x.trace(), 2 * adds[kind]);
    }
    EggScales many = Due.barn("e50 0;");
    for (int i = 0; i < 500; i++) {
      many.rate(5, 0);
    }
    due.is("30: 500 times", many.trace(), 50000500L);
  }

  private static void traceStays() {
    EggScales x = Due.barn("s50 0 9;e60 0;");
    x.keep(0);
    x.rate(0, 0);
    x.rolls(0);
    x.undo();
    x.back(0);
    x.forget();
    x.clear();
    due.is("30: it stays", x.trace(), 1);
    x.barn();
    due.is("30: it is not told by a text", x.trace(), 1);
  }

  /** A tray, the basket, the nest, nowhere; weights, marks, the row, falls. */
  private static void imagesOfEachPlace() {
    for (int image = 0; image < 2; image++) {
      EggScales x = Due.barn("s60 0 9;s50 0 9;e70 0;e55 3;e40 0;e70 0;e80 0;");
      x.rolls(0);
      x.rolls(1);
      x.rolls(2);
      x.drops(3);
      x.sets(0, 61);
      x.shifts(0);
      due.is("27: one in the nest", x.keep(image), 1);
      x.takes(0);
      x.rolls(0);
      x.takes(1);
      x.rolls(1);
      x.rolls(4);
      x.sets(0, 9);
      x.sets(1, 8);
      x.shifts(1);
      x.wipes(1);
      due.is("28: one in the nest", x.back(image), 1);
      int[] where = {1, 2, 8, 9, 0};
      int[] weight = {70, 54, 40, 70, 80};
      for (int e = 0; e < 5; e++) {
        due.is("28: where egg " + e + " is", x.egg(e, 2), where[e]);
        due.is("28: what egg " + e + " weighs", x.egg(e, 0), weight[e]);
      }
      int[][] scales = {{61, 1, 1}, {50, 1, 0}};
      for (int s = 0; s < 2; s++) {
        due.is("28: mark of " + s, x.scale(s, 0), scales[s][0]);
        due.is("28: falls of " + s, x.scale(s, 3), scales[s][1]);
        due.is("28: place of " + s, x.scale(s, 4), scales[s][2]);
      }
      due.is("28: the other image", x.back(1 - image), -2);
    }
  }

  private static void imagesKeptOver() {
    EggScales x = Due.barn("s50 0 9;e60 0;e60 0;e60 0;");
    due.is("27: three", x.keep(0), 3);
    x.rolls(0);
    due.is("27: two, the other image", x.keep(1), 2);
    x.rolls(1);
    due.is("27: one, over the first", x.keep(0), 1);
    x.rolls(2);
    due.is("28: the second", x.back(1), 2);
    due.is("28: the first as kept last", x.back(0), 1);
    x.takes(0);
    due.is("28: it is there still", x.back(0), 1);
    due.is("28: the second is there still", x.back(1), 2);
  }

  private static void imagesOfNothing() {
    EggScales x = new EggScales();
    due.is("28: none was kept, 0", x.back(0), -2);
    due.is("28: none was kept, 1", x.back(1), -2);
    due.is("28: BAD, 2", x.back(2), -1);
    due.is("28: BAD, -1", x.back(-1), -1);
    due.is("27: no eggs", x.keep(0), 0);
    due.is("28: no eggs", x.back(0), 0);
    due.is("28: the other one", x.back(1), -2);
    due.is("27: BAD, 2", x.keep(2), -1);
    due.is("27: BAD, -1", x.keep(-1), -1);
  }

  private static void imagesGoneWhenReadAnew() {
    EggScales x = Due.barn("s50 0 9;e60 0;");
    x.keep(0);
    x.keep(1);
    x.type('x');
    due.is("4: a fault", x.barn(), -10);
    due.is("28: they are there behind a fault", x.back(0), 1);
    due.is("28: the second, too", x.back(1), 1);
    x.clear();
    due.is("4: an empty text", x.barn(), 0);
    due.is("28: the first is gone", x.back(0), -2);
    due.is("28: the second is gone", x.back(1), -2);
    due.is("27: kept anew", x.keep(1), 0);
    due.is("28: it is there", x.back(1), 0);
  }

  private static void imagesLeaveNothingToUndo() {
    EggScales x = Due.barn("s1 0 9;e60 0;");
    for (int mark = 2; mark <= 13; mark++) {
      x.sets(0, mark);
    }
    x.keep(0);
    due.is("7: ten behind keep()", x.now(4), 10);
    due.is("28: refused", x.back(1), -2);
    due.is("7: ten behind what was refused", x.now(4), 10);
    x.back(0);
    due.is("7: none behind back()", x.now(4), 0);
    due.is("14: none", x.undo(), -2);
    due.is("5: the mark", x.scale(0, 0), 13);
    x.sets(0, 20);
    due.is("14: what came behind it", x.undo(), 0);
    due.is("5: the mark again", x.scale(0, 0), 13);
    due.is("14: no more", x.undo(), -2);
  }

  private static void countsAtTheirBounds() {
    EggScales x = new EggScales();
    Due.type(x, "s1 0 1;".repeat(5) + "e1 0;".repeat(6));
    due.is("29: letters", x.count(3), 65);
    x.barn();
    due.is("29: scales", x.count(0), 5);
    due.is("29: eggs", x.count(1), 6);
    due.is("29: tested", x.count(2), 0);
    due.is("29: no letters", x.count(3), 0);
    for (int i = 0; i < 7; i++) {
      x.tested(50, 0);
    }
    due.is("29: tested, six at most", x.count(2), 6);
    Due.type(x, " ".repeat(121));
    due.is("29: letters, 120 at most", x.count(3), 120);
    due.is("29: -1", x.count(-1), -1);
    due.is("29: 4", x.count(4), -1);
  }
}
