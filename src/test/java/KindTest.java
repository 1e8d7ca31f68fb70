/** Promises 26 to 30: rate, keep, back, count, trace. */
public final class KindTest {
  private static final Due due = new Due();

  public static void main(String[] args) {
    rates();
    traces();
    images();
    backUndoesNothing();
    imagesKeepNothingElse();
    counts();
    due.end();
  }

  private static void rateIs(EggScales x, int e, int... want) {
    for (int kind = 0; kind < 6; kind++) {
      due.is("26: rate(" + kind + ", " + e + ")", x.rate(kind, e), want[kind]);
    }
  }

  private static void rates() {
    EggScales x = Due.barn("s50 0 9;s40 0 9;s30 0 9;e60 5;e55 0;e44 3;e10 4;e20 1;");
    rateIs(x, 0, 60, 65, 57, 130, 57, 60);
    rateIs(x, 3, 10, 15, 7, 30, 10, 10);
    x.rolls(1);
    x.rolls(2);
    x.rolls(3);
    rateIs(x, 1, 55, 56, 52, 112, 53, 57);
    rateIs(x, 2, 43, 44, 40, 88, 42, 45);
    rateIs(x, 0, 60, 62, 57, 124, 57, 62);
    x.drops(1);
    x.drops(2);
    rateIs(x, 1, 55, 57, 52, 114, 53, 57);
    x.wipes(1);
    due.is("26: a bantam by what is not wiped", x.rate(5, 4), 21);
    EggScales light = Due.barn("s50 0 9;s40 0 9;s30 0 9;e1 0;");
    due.is("26: below 0", light.rate(2, 0), -2);
    due.is("26: a duck's below 0", light.rate(4, 0), -2);
    for (int[] bad : new int[][] {{-1, 0}, {6, 0}, {0, -1}, {0, 1}, {Integer.MAX_VALUE, 0}, {0, Integer.MIN_VALUE}}) {
      due.is("26: rate(" + bad[0] + ", " + bad[1] + ")", light.rate(bad[0], bad[1]), -1000000);
    }
    due.is("26: no eggs", new EggScales().rate(0, 0), -1000000);
  }

  private static void traces() {
    long[] adds = {1, 11, 101, 1011, 10101, 100001};
    EggScales x = Due.barn("s50 0 9;e60 0;");
    long sum = 0;
    for (int kind = 0; kind < 6; kind++) {
      x.rate(kind, 0);
      sum += adds[kind];
      due.is("30: behind kind " + kind, x.trace(), sum);
    }
    x.rate(6, 0);
    x.rate(-1, 0);
    x.rate(3, 1);
    due.is("30: what is BAD asks no body", x.trace(), sum);
    x.keep(0);
    x.rate(0, 0);
    x.back(0);
    due.is("30: no image keeps it", x.trace(), sum + 1);
    x.rolls(0);
    x.rate(0, 0);
    x.undo();
    due.is("30: it is not undone", x.trace(), sum + 2);
    Due.type(x, "e7 0;");
    x.barn();
    due.is("30: no text tells it", x.trace(), sum + 2);
  }

  private static void images() {
    EggScales x = Due.barn("s70 1 9;s50 1 2;e60 3;e70 0;e20 0;");
    due.is("28: none was kept", x.back(0), -2);
    due.is("27: all in the nest", x.keep(0), 3);
    due.is("28: the other was not kept", x.back(1), -2);
    x.rolls(0);
    x.rolls(1);
    x.sets(1, 33);
    x.shifts(0);
    due.is("27: one in the nest", x.keep(1), 1);
    x.drops(1);
    x.rolls(2);
    x.wipes(1);
    x.shifts(1);
    due.is("28: as at first", x.back(0), 3);
    due.is("28: nest", x.now(0), 7);
    due.is("28: weight", x.egg(0, 0), 60);
    due.is("28: mark", x.scale(1, 0), 50);
    due.is("28: place", x.scale(0, 4), 0);
    due.is("28: fallen", x.now(3), 0);
    due.is("28: as kept later", x.back(1), 1);
    due.is("28: nest then", x.now(0), 4);
    due.is("28: tray 1", x.scale(1, 5), 1);
    due.is("28: tray 0", x.scale(0, 5), 2);
    due.is("28: weight then", x.egg(0, 0), 59);
    due.is("28: mark then", x.scale(1, 0), 33);
    due.is("28: place then", x.scale(0, 4), 1);
    due.is("28: fallen then", x.scale(1, 3), 1);
    x.keep(0);
    x.takes(0);
    due.is("27: kept anew", x.back(0), 1);
    due.is("28: again", x.back(0), 1);
    for (int bad : new int[] {-1, 2, Integer.MAX_VALUE, Integer.MIN_VALUE}) {
      due.is("27: keep(" + bad + ")", x.keep(bad), -1);
      due.is("28: back(" + bad + ")", x.back(bad), -1);
    }
    EggScales none = new EggScales();
    due.is("27: no eggs", none.keep(1), 0);
    due.is("28: no eggs", none.back(1), 0);
  }

  private static void backUndoesNothing() {
    EggScales x = Due.barn("s50 0 9;e60 0;e70 0;");
    x.rolls(0);
    x.keep(0);
    due.is("27: keep() leaves what may be undone", x.now(4), 1);
    x.rolls(1);
    due.is("28: refused", x.back(1), -2);
    due.is("28: refused, what may be undone stays", x.now(4), 2);
    x.back(0);
    due.is("28: nothing may be undone", x.now(4), 0);
    due.is("28: undo()", x.undo(), -2);
    x.rolls(1);
    due.is("28: what comes then may be", x.undo(), 0);
    due.is("28: back to the image", x.now(0), 2);
  }

  private static void imagesKeepNothingElse() {
    EggScales x = Due.barn("s50 0 9;e60 0;");
    x.keep(0);
    x.tested(5, -9);
    x.type('e');
    x.back(0);
    due.is("28: tests stay", x.count(2), 1);
    due.is("28: the text stays", x.count(3), 1);
  }

  private static void counts() {
    EggScales x = Due.barn("s50 0 9;s40 0 9;e60 0;e50 0;e40 0;");
    x.type('e');
    x.tested(9, -9);
    x.tested(8, -9);
    x.tested(7, -9);
    x.tested(6, -9);
    x.drops(0);
    due.is("29: scales", x.count(0), 2);
    due.is("29: eggs", x.count(1), 3);
    due.is("29: tested", x.count(2), 4);
    due.is("29: letters", x.count(3), 1);
    due.is("29: count(4)", x.count(4), -1);
    due.is("29: count(-1)", x.count(-1), -1);
  }
}
