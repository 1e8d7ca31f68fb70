/** Promises 22 to 25: each sentence that names an edge. */
public final class TesterEdgeTest {
  private static final Due due = new Due();

  public static void main(String[] args) {
    sixAtMost();
    fullAndBad();
    forgottenOnce();
    offBy9AtMost();
    marksBelow1AndAbove99();
    eachScaleOff();
    oneScaleAlone();
    noneOff();
    noWayBehindNone();
    lastOfFiveScales();
    asToldWhateverIsDone();
    testEggsOfKind0();
    emptyTraysOfAnyRoom();
    tryOfFewWays();
    tryTheLowest();
    tryBetween1And99();
    due.end();
  }

  private static void sixAtMost() {
    EggScales x = Due.barn("s50 0 1;");
    for (int i = 1; i <= 6; i++) {
      due.is("29: tested", x.count(2), i - 1);
      due.is("22: the same one, " + i, x.tested(99, 0), i);
    }
    due.is("22: a seventh", x.tested(1, -9), -3);
    due.is("29: six", x.count(2), 6);
    due.is("24: the seventh does not count", x.can(0), 19);
    due.is("23: six", x.forget(), 6);
    due.is("22: room again", x.tested(1, -9), 1);
  }

  private static void fullAndBad() {
    EggScales x = Due.barn("s50 0 1;s40 0 1;");
    for (int i = 0; i < 6; i++) {
      x.tested(60, 0);
    }
    for (int[] bad : new int[][] {{0, 0}, {100, 0}, {60, 2}, {60, -1}, {60, -8}, {60, -10}, {0, -9}, {100, -9}}) {
      due.is("22: BAD is ahead of FULL: tested(" + bad[0] + ", " + bad[1] + ")", x.tested(bad[0], bad[1]), -1);
    }
    due.is("22: FULL", x.tested(60, 1), -3);
    due.is("22: FULL, the basket", x.tested(60, -9), -3);
    due.is("29: six", x.count(2), 6);
  }

  private static void forgottenOnce() {
    EggScales x = Due.barn("s50 0 1;");
    due.is("23: nothing", x.forget(), 0);
    x.tested(50, 0);
    due.is("23: one", x.forget(), 1);
    due.is("23: nothing then", x.forget(), 0);
    due.is("24: all ways again", x.can(0), 19);
    due.is("23: of a new object", new EggScales().forget(), 0);
  }

  /** One scale of 50: by d it tips at 41 up to 59, or at 50 if it is not off. */
  private static void offBy9AtMost() {
    for (int g = 1; g <= 99; g++) {
      EggScales fell = Due.barn("s50 0 1;");
      fell.tested(g, 0);
      canIs(g + " fell", fell, Math.max(0, Math.min(19, g - 40)), g > 40 ? 1 : 0, g >= 50 ? 1 : 0);
      EggScales passed = Due.barn("s50 0 1;");
      passed.tested(g, -9);
      canIs(g + " passed", passed, Math.max(0, Math.min(19, 59 - g)), g < 59 ? 1 : 0, g < 50 ? 1 : 0);
    }
  }

  private static void canIs(String what, EggScales x, int ways, int scales, int none) {
    due.is("24: " + what + ", ways", x.can(0), ways);
    due.is("24: " + what + ", scales", x.can(1), scales);
    due.is("24: " + what + ", none", x.can(2), none);
  }

  private static void marksBelow1AndAbove99() {
    EggScales light = Due.barn("s1 0 1;");
    light.tested(1, 0);
    canIs("a mark of 1, it fell", light, 10, 1, 1);
    light.forget();
    light.tested(1, -9);
    canIs("a mark of 1, it passed", light, 9, 1, 0);
    light.tested(9, -9);
    canIs("a mark of 1, by 9", light, 1, 1, 0);
    light.tested(10, -9);
    canIs("a mark of 1, by 10", light, 0, 0, 0);
    EggScales heavy = Due.barn("s99 0 1;");
    heavy.tested(99, -9);
    canIs("a mark of 99, it passed", heavy, 9, 1, 0);
    heavy.forget();
    heavy.tested(90, 0);
    canIs("a mark of 99, by -9", heavy, 1, 1, 0);
    heavy.forget();
    heavy.tested(89, 0);
    canIs("a mark of 99, by -10", heavy, 0, 0, 0);
  }

  private static void eachScaleOff() {
    for (int n = 0; n <= 5; n++) {
      EggScales x = Due.barn("s50 0 1;".repeat(n));
      canIs(n + " scales, nothing tested", x, 1 + 18 * n, (1 << n) - 1, 1);
    }
    EggScales x = Due.barn("s90 0 1;s75 0 1;s60 0 1;s45 0 1;s30 0 1;");
    x.tested(29, 4);
    canIs("the last one is off", x, 9, 16, 0);
    x.forget();
    x.tested(81, 0);
    canIs("the first one is off by -9", x, 1, 1, 0);
    x.forget();
    x.tested(53, 3);
    // not by the third off -9 .. -7 (it would fall there), nor by the fourth off 9 (it would pass)
    canIs("none of them need be", x, 1 + 18 + 18 + 15 + 17 + 18, 31, 1);
  }

  /** 'One SCALE at most is OFF': what two alone would explain, no way does. */
  private static void oneScaleAlone() {
    EggScales x = Due.barn("s60 0 1;s40 0 1;");
    x.tested(59, 0);
    canIs("the first is off", x, 9, 1, 0);
    x.tested(39, 1);
    canIs("the second as well", x, 0, 0, 0);
    due.is("25: no way", x.next(), -9);
  }

  private static void noneOff() {
    EggScales x = Due.barn("s50 0 1;");
    x.tested(50, 0);
    x.tested(49, -9);
    canIs("none alone", x, 1, 0, 1);
    due.is("25: one way, none is off", x.next(), -9);
    x.forget();
    x.tested(51, 0);
    x.tested(50, -9);
    canIs("by 1 alone", x, 1, 1, 0);
    due.is("25: one way, it is off", x.next(), -9);
    x.forget();
    x.tested(49, 0);
    x.tested(48, -9);
    canIs("by -1 alone", x, 1, 1, 0);
    for (EggScales none : new EggScales[] {new EggScales(), Due.barn("e50 0;")}) {
      canIs("no scales", none, 1, 0, 1);
      due.is("22: no scales: the basket", none.tested(99, -9), 1);
      canIs("no scales, tested", none, 1, 0, 1);
      due.is("25: no scales", none.next(), -9);
    }
  }

  private static void noWayBehindNone() {
    EggScales x = Due.barn("s50 0 1;");
    canIs("nothing tested", x, 19, 1, 1);
    x.tested(1, 0);
    canIs("what can't be", x, 0, 0, 0);
    x.forget();
    canIs("forgotten", x, 19, 1, 1);
  }

  /** Where it goes tells the last tray from the basket. */
  private static void lastOfFiveScales() {
    EggScales x = Due.barn("s99 0 1;".repeat(4) + "s50 0 1;");
    x.tested(49, 4);
    canIs("the last of five is off", x, 9, 16, 0);
    due.is("25: of 41 .. 49: 44 parts them 4 and 5", x.next(), 44);
    x.forget();
    x.tested(50, -9);
    canIs("the last of five is off the other way", x, 9, 16, 0);
    due.is("25: of 51 .. 59: 54 parts them 4 and 5", x.next(), 54);
  }

  /** 'MARKS as told, nothing FALLEN, SCALES in order 0, 1 ..'. */
  private static void asToldWhateverIsDone() {
    EggScales x = Due.barn("s50 1 1;s40 1 1;e60 0;e45 0;");
    x.tested(50, 0);
    x.tested(41, 1);
    // by none; by the first off -8 .. -1; by the second off -9 .. -1 and by 1
    canIs("at first", x, 19, 3, 1);
    int next = x.next();
    x.rolls(0);
    canIs("full and stiff", x, 19, 3, 1);
    x.sets(0, 99);
    x.sets(1, 98);
    canIs("set", x, 19, 3, 1);
    x.shifts(0);
    canIs("shifted", x, 19, 3, 1);
    x.keep(0);
    x.back(0);
    x.undo();
    canIs("brought back", x, 19, 3, 1);
    due.is("25: the same to try", x.next(), next);
    due.is("29: tests stay", x.count(2), 2);
  }

  private static void testEggsOfKind0() {
    EggScales x = Due.barn("s50 0 1;e50 2;e50 5;");
    x.tested(49, -9);
    x.tested(50, 0);
    canIs("seems as heavy as it is", x, 1, 0, 1);
  }

  private static void emptyTraysOfAnyRoom() {
    EggScales x = Due.barn("s50 0 1;s40 0 1;");
    for (int i = 0; i < 6; i++) {
      x.tested(59, 0);
    }
    canIs("six into a tray with room for one", x, 37, 3, 1);
  }

  private static void tryOfFewWays() {
    EggScales x = Due.barn("s50 0 1;");
    x.tested(58, -9);
    due.is("25: one way", x.next(), -9);
    x.forget();
    x.tested(59, -9);
    due.is("25: no way", x.next(), -9);
    x.forget();
    x.tested(57, -9);
    due.is("25: two ways, of 58 and 59", x.next(), 58);
    x.forget();
    x.tested(56, -9);
    due.is("25: three ways, 57 parts them as well as 58", x.next(), 57);
    x.forget();
    x.tested(42, 0);
    due.is("25: two ways, of 41 and 42", x.next(), 41);
  }

  private static void tryTheLowest() {
    due.is("25: of 41 .. 59: 49 parts them 9 and 10, as 50 does 10 and 9", Due.barn("s50 0 1;").next(), 49);
    EggScales x = Due.barn("s50 0 1;");
    x.tested(50, -9);
    due.is("25: nine ways, of 51 .. 59", x.next(), 54);
    x.forget();
    x.tested(49, 0);
    due.is("25: nine ways, of 41 .. 49", x.next(), 44);
    x.forget();
    x.tested(50, 0);
    due.is("25: ten ways, of 41 .. 50", x.next(), 45);
  }

  private static void tryBetween1And99() {
    due.is("25: of 90 .. 108: 98 parts them 9 and 10", Due.barn("s99 0 1;").next(), 98);
    due.is("25: of -8 .. 10: 1 parts them 10 and 9", Due.barn("s1 0 1;").next(), 1);
    EggScales heavy = Due.barn("s99 0 1;");
    heavy.tested(98, -9);
    due.is("25: of 99 .. 108: 99 alone parts them", heavy.next(), 99);
    heavy.tested(99, -9);
    due.is("25: of 100 .. 108: nothing parts them, the lowest", heavy.next(), 1);
    EggScales light = Due.barn("s1 0 1;");
    light.tested(1, 0);
    due.is("25: of -8 .. 1: nothing parts them, the lowest", light.next(), 1);
    light.forget();
    light.tested(1, -9);
    due.is("25: of 2 .. 10: 5 parts them 4 and 5", light.next(), 5);
  }
}
