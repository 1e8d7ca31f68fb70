/** Promises 22 to 25: tested, forget, can, next. */
public final class TesterTest {
  private static final Due due = new Due();

  public static void main(String[] args) {
    testedAndForgotten();
    can();
    canByMarksAsTold();
    next();
    due.end();
  }

  private static void testedAndForgotten() {
    EggScales x = Due.barn("s50 0 9;s40 0 9;e60 0;");
    due.is("22: the first", x.tested(1, -9), 1);
    due.is("22: the heaviest", x.tested(99, 0), 2);
    due.is("22: another scale", x.tested(45, 1), 3);
    due.is("23: forget()", x.forget(), 3);
    due.is("23: again", x.forget(), 0);
    due.is("23: count(2)", x.count(2), 0);
    for (int i = 1; i <= 6; i++) {
      due.is("22: test " + i, x.tested(60, 0), i);
    }
    due.is("22: a seventh", x.tested(60, 0), -3);
    due.is("22: BAD goes ahead of FULL", x.tested(0, 0), -1);
    due.is("22: count(2)", x.count(2), 6);
    x.forget();
    for (int[] bad : new int[][] {{0, 0}, {100, 0}, {1, 2}, {1, -1}, {1, -8}, {1, -10}, {1, 8}, {-1, 0},
        {Integer.MAX_VALUE, 0}, {1, Integer.MIN_VALUE}}) {
      due.is("22: tested(" + bad[0] + ", " + bad[1] + ")", x.tested(bad[0], bad[1]), -1);
    }
    due.is("22: nothing to undo", x.now(4), 0);
    EggScales none = new EggScales();
    due.is("22: no scales, the basket", none.tested(5, -9), 1);
    due.is("22: no scales, a scale", none.tested(5, 0), -1);
  }

  private static void canIs(String what, EggScales x, int ways, int scales, int none) {
    due.is("24: " + what + ", ways", x.can(0), ways);
    due.is("24: " + what + ", scales", x.can(1), scales);
    due.is("24: " + what + ", none", x.can(2), none);
  }

  private static void can() {
    EggScales x = Due.barn("s50 0 9;s40 0 9;");
    canIs("nothing tested", x, 37, 3, 1);
    x.tested(50, 0);
    // none, scale 0 by -9 .. -1, scale 1 by any
    canIs("as heavy as the mark", x, 28, 3, 1);
    x.tested(49, 0);
    canIs("1 too light fell", x, 9, 1, 0);
    x.tested(42, 1);
    canIs("not at 42", x, 7, 1, 0);
    x.tested(48, 1);
    canIs("by -1 alone", x, 1, 1, 0);
    x.tested(47, 0);
    canIs("that can't be", x, 0, 0, 0);
    x.forget();
    x.tested(50, 1);
    canIs("too heavy a mark", x, 9, 1, 0);
    x.tested(59, 1);
    canIs("by 10 at least", x, 0, 0, 0);
    x.forget();
    x.tested(31, 1);
    canIs("by -9 alone", x, 1, 2, 0);
    x.forget();
    x.tested(48, -9);
    canIs("by 9 alone", x, 1, 2, 0);
    x.forget();
    x.tested(41, 0);
    canIs("the first by -9", x, 1, 1, 0);
    x.forget();
    x.tested(40, 0);
    canIs("the first by -10", x, 0, 0, 0);
    for (int bad : new int[] {-1, 3, Integer.MAX_VALUE, Integer.MIN_VALUE}) {
      due.is("24: can(" + bad + ")", x.can(bad), -1);
    }
    EggScales light = Due.barn("s1 0 1;");
    light.tested(1, 0);
    canIs("a mark below 1", light, 10, 1, 1);
    EggScales heavy = Due.barn("s99 0 1;");
    heavy.tested(99, -9);
    canIs("a mark above 99", heavy, 9, 1, 0);
    canIs("no scales", new EggScales(), 1, 0, 1);
  }

  private static void canByMarksAsTold() {
    EggScales x = Due.barn("s50 1 1;s40 0 9;e60 0;");
    x.rolls(0);
    x.sets(0, 90);
    x.shifts(0);
    x.tested(50, 0);
    canIs("whatever was done", x, 28, 3, 1);
    due.is("25: whatever was done", x.next(), plainTry(new int[] {50, 40}, new int[][] {{50, 0}}));
  }

  private static void next() {
    EggScales x = Due.barn("s50 0 9;s40 0 9;");
    nextIs(x, new int[] {50, 40}, new int[][] {});
    nextIs(x, new int[] {50, 40}, new int[][] {{50, 0}});
    nextIs(x, new int[] {50, 40}, new int[][] {{50, 0}, {49, 0}});
    nextIs(x, new int[] {50, 40}, new int[][] {{50, 1}});
    nextIs(x, new int[] {50, 40}, new int[][] {{41, 0}});
    nextIs(x, new int[] {50, 40}, new int[][] {{1, 0}});
    x.forget();
    x.tested(41, 0);
    due.is("25: one way", x.next(), -9);
    x.forget();
    x.tested(1, 0);
    due.is("25: no way", x.next(), -9);
    due.is("25: no scales", new EggScales().next(), -9);
    // 19 ways tip at 41 .. 59: 50 parts them 10 and 9, 49 9 and 10, the lowest is taken
    due.is("25: one scale", Due.barn("s50 0 9;").next(), 49);
    EggScales two = Due.barn("s50 0 9;");
    two.tested(57, -9);
    due.is("25: two ways", two.next(), 58);
    EggScales heavy = Due.barn("s99 0 9;");
    heavy.tested(98, -9);
    due.is("25: the heaviest", heavy.next(), 99);
    EggScales five = Due.barn("s90 0 9;s70 0 9;s50 0 9;s30 0 9;s10 0 9;");
    nextIs(five, new int[] {90, 70, 50, 30, 10}, new int[][] {});
    nextIs(five, new int[] {90, 70, 50, 30, 10}, new int[][] {{65, 1}});
    // g of 1 parts ways no worse than any other: ways by the heavy mark alone are many
    due.is("25: no part is smaller", Due.barn("s1 0 1;s99 0 1;").next(), plainTry(new int[] {1, 99}, new int[][] {}));
  }

  private static void nextIs(EggScales x, int[] marks, int[][] tests) {
    x.forget();
    for (int[] t : tests) {
      x.tested(t[0], t[1]);
    }
    due.is("25: behind " + tests.length + " tests", x.next(), plainTry(marks, tests));
    due.is("25: tests stay", x.count(2), tests.length);
  }

  private static int fell(int[] marks, int off, int d, int g) {
    for (int s = 0; s < marks.length; s++) {
      if (g >= marks[s] + (s == off ? d : 0)) {
        return s;
      }
    }
    return -9;
  }

  private static int plainTry(int[] marks, int[][] tests) {
    java.util.List<int[]> ways = new java.util.ArrayList<>();
    ways.add(new int[] {-1, 0});
    for (int s = 0; s < marks.length; s++) {
      for (int d = 1; d <= 9; d++) {
        ways.add(new int[] {s, d});
        ways.add(new int[] {s, -d});
      }
    }
    for (int[] t : tests) {
      ways.removeIf(way -> fell(marks, way[0], way[1], t[0]) != t[1]);
    }
    if (ways.size() <= 1) {
      return -9;
    }
    int best = -9;
    long least = Long.MAX_VALUE;
    for (int g = 1; g <= 99; g++) {
      long greatest = 0;
      for (int to = -9; to < marks.length; to++) {
        int weight = g;
        int goal = to;
        greatest = Math.max(greatest, ways.stream().filter(w -> fell(marks, w[0], w[1], weight) == goal).count());
      }
      if (greatest < least) {
        best = g;
        least = greatest;
      }
    }
    return best;
  }
}
