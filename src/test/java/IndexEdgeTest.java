/** 'BAD: a number is not as told, or there is no such thing': around each bound of a SCALE, an EGG, a what. */
public final class IndexEdgeTest {
  private static final Due due = new Due();
  private static final int LEAST = Integer.MIN_VALUE, MOST = Integer.MAX_VALUE;

  private interface Call {
    long with(int number);
  }

  public static void main(String[] args) {
    for (int n = 0; n <= 5; n++) {
      scaleNumbers(n);
    }
    for (int n = 0; n <= 6; n++) {
      eggNumbers(n);
    }
    whats();
    otherNumbers();
    newObject();
    answersAtTheirGreatest();
    lastOf512Calls();
    due.end();
  }

  /** The bad answer below the least and above the most number, another one between them. */
  private static void span(String name, Call call, int least, int most, long bad) {
    for (long n : new long[] {LEAST, LEAST + 1L, least - 2L, least - 1L, most + 1L, most + 2L, MOST - 1L, MOST}) {
      if (n < least || n > most) {
        due.is(name + " of " + n, call.with((int) n), bad);
      }
    }
    for (int n = least; n <= most; n++) {
      due.isTrue(name + " of " + n + " is not refused as bad", call.with(n) != bad);
    }
  }

  private static EggScales barnOf(int scales, int eggs) {
    return Due.barn("s50 0 9;".repeat(scales) + "e60 0;".repeat(eggs));
  }

  private static void scaleNumbers(int n) {
    EggScales x = barnOf(n, 1);
    span("5: scale(s, 0), " + n + " scales,", s -> x.scale(s, 0), 0, n - 1, -1);
    span("10: wipes(s), " + n + " scales,", x::wipes, 0, n - 1, -1);
    span("11: sets(s, 7), " + n + " scales,", s -> x.sets(s, 7), 0, n - 1, -1);
    span("12: shifts(s), " + n + " scales,", x::shifts, 0, n - 1, -1);
    span("17: row(k), " + n + " scales,", x::row, -1, n - 1, -1);
    span("18: reset(0, s), " + n + " scales,", s -> x.reset(0, s), 0, n - 1, -1);
    EggScales y = barnOf(n, 1);
    // NONE stands for the basket and is no number of a scale
    span("22: tested(60, s), " + n + " scales,", s -> s == -9 ? -1 : y.tested(60, s), 0, n - 1, -1);
    due.is("22: tested(60, NONE), " + n + " scales", y.tested(60, -9), n + 1);
  }

  private static void eggNumbers(int n) {
    EggScales x = barnOf(1, n);
    span("6: egg(e, 0), " + n + " eggs,", e -> x.egg(e, 0), 0, n - 1, -1);
    span("15: goes(e), " + n + " eggs,", x::goes, 0, n - 1, -1);
    span("18: reset(e, 0), " + n + " eggs,", e -> x.reset(e, 0), 0, n - 1, -1);
    span("26: rate(0, e), " + n + " eggs,", e -> x.rate(0, e), 0, n - 1, -1000000);
    span("8: rolls(e), " + n + " eggs,", x::rolls, 0, n - 1, -1);
    span("9: takes(e), " + n + " eggs,", x::takes, 0, n - 1, -1);
    span("13: drops(e), " + n + " eggs,", x::drops, 0, n - 1, -1);
    // those that are nowhere are eggs still
    span("6: egg(e, 2), " + n + " dropped eggs,", e -> x.egg(e, 2), 0, n - 1, -1);
    due.is("29: count(1), " + n + " dropped eggs", x.count(1), n);
  }

  private static void whats() {
    EggScales x = barnOf(2, 2);
    x.rolls(0);
    span("5: scale(0, what)", what -> x.scale(0, what), 0, 5, -1);
    span("6: egg(0, what)", what -> x.egg(0, what), 0, 4, -1);
    span("7: now(what)", x::now, 0, 4, -1);
    span("19: cracks(5, 1, what)", what -> x.cracks(5, 1, what), 0, 1, -1);
    span("20: box(1, 0, what)", what -> x.box(1, 0, what), 0, 1, -1);
    span("24: can(what)", x::can, 0, 2, -1);
    span("29: count(what)", x::count, 0, 3, -1);
  }

  private static void otherNumbers() {
    EggScales x = barnOf(2, 2);
    x.rolls(0);
    span("11: sets(0, mark)", mark -> x.sets(0, mark), 1, 99, -1);
    span("16: order(k)", x::order, -1, 5, -1);
    span("19: cracks(x, 1, 0)", tenths -> x.cracks(tenths, 1, 0), 0, 10, -1);
    span("19: cracks(5, k, 0)", k -> x.cracks(5, k, 0), 0, 6, -1);
    span("20: box(n, 0, 0)", n -> x.box(n, 0, 0), 1, 6, -1);
    span("21: boxes(n, 0)", n -> x.boxes(n, 0), 1, 6, -1);
    EggScales y = barnOf(1, 1);
    boxGrams(y);
    testGrams(y);
    span("26: rate(kind, 0)", kind -> y.rate(kind, 0), 0, 5, -1000000);
    span("27: keep(image)", y::keep, 0, 1, -1);
    span("28: back(image)", y::back, 0, 1, -1);
  }

  private static void boxGrams(EggScales x) {
    for (int w : new int[] {0, 1, 599, 600}) {
      due.is("20: box(1, " + w + ", 0) of no egg", x.box(1, w, 0), -9);
      due.is("21: boxes(1, " + w + ") of no egg", x.boxes(1, w), 0);
    }
    for (int w : new int[] {-1, -2, 601, 602, LEAST, MOST}) {
      due.is("20: box(1, " + w + ", 0)", x.box(1, w, 0), -1);
      due.is("20: box(1, " + w + ", 1)", x.box(1, w, 1), -1);
      due.is("21: boxes(1, " + w + ")", x.boxes(1, w), -1);
    }
  }

  private static void testGrams(EggScales x) {
    for (int g : new int[] {1, 2, 98, 99}) {
      due.is("22: tested(" + g + ", 0)", x.tested(g, 0), 1);
      x.forget();
    }
    for (int g : new int[] {0, -1, 100, 101, LEAST, MOST}) {
      due.is("22: tested(" + g + ", 0)", x.tested(g, 0), -1);
      due.is("22: tested(" + g + ", NONE)", x.tested(g, -9), -1);
    }
    due.is("22: nothing of that was taken", x.count(2), 0);
  }

  /** Promise 1: no such thing as a scale or an egg. */
  private static void newObject() {
    EggScales x = new EggScales();
    for (int s = 0; s < 6; s++) {
      due.is("1: scale(" + s + ", 0)", x.scale(s, 0), -1);
      due.is("1: wipes(" + s + ")", x.wipes(s), -1);
      due.is("1: sets(" + s + ", 5)", x.sets(s, 5), -1);
      due.is("1: shifts(" + s + ")", x.shifts(s), -1);
      due.is("1: row(" + s + ")", x.row(s), -1);
      due.is("1: reset(0, " + s + ")", x.reset(0, s), -1);
    }
    for (int e = 0; e < 7; e++) {
      due.is("1: egg(" + e + ", 0)", x.egg(e, 0), -1);
      due.is("1: rolls(" + e + ")", x.rolls(e), -1);
      due.is("1: takes(" + e + ")", x.takes(e), -1);
      due.is("1: drops(" + e + ")", x.drops(e), -1);
      due.is("1: goes(" + e + ")", x.goes(e), -1);
      due.is("1: rate(0, " + e + ")", x.rate(0, e), -1000000);
    }
    for (int k = 0; k < 6; k++) {
      due.is("1: order(" + k + ")", x.order(k), -9);
    }
    due.is("1: order(-1)", x.order(-1), 0);
    due.is("1: row(-1)", x.row(-1), 0);
    due.is("1: box(1, 0, 0)", x.box(1, 0, 0), -9);
    due.is("1: boxes(1, 0)", x.boxes(1, 0), 0);
    due.is("1: can(0)", x.can(0), 1);
    due.is("1: can(1)", x.can(1), 0);
    due.is("1: can(2)", x.can(2), 1);
    due.is("1: next()", x.next(), -9);
    due.is("1: undo()", x.undo(), -2);
  }

  /** Five scales, six eggs: the last place, the last tray, all bits. */
  private static void answersAtTheirGreatest() {
    EggScales x = Due.barn("s99 0 9;s99 0 9;s99 0 9;s99 0 9;s50 0 9;e60 0;e60 0;e60 0;e60 0;e60 0;e60 0;");
    due.is("7: all six in the nest", x.now(0), 63);
    for (int e = 0; e < 6; e++) {
      due.is("8: from the last scale", x.rolls(e), 4);
      due.is("6: where it is", x.egg(e, 2), 5);
      due.is("6: where it belongs", x.egg(e, 4), 4);
    }
    due.is("5: all six in the last tray", x.scale(4, 5), 63);
    due.is("5: the last place", x.scale(4, 4), 4);
    due.is("7: none in the nest", x.now(0), 0);
    due.is("7: all six are right", x.now(2), 63);
    x.sets(4, 61);
    due.is("7: none is right", x.now(2), 0);
    for (int e = 0; e < 6; e++) {
      due.is("9: so many in the nest", x.takes(e), e + 1);
      due.is("8: past all", x.rolls(e), -9);
      x.takes(e);
    }
    for (int e = 0; e < 6; e++) {
      x.rolls(e);
    }
    due.is("7: all six in the basket", x.now(1), 63);
    due.is("7: all six are right there", x.now(2), 63);
    due.is("6: the basket", x.egg(5, 2), 8);
    x.drops(5);
    due.is("6: nowhere", x.egg(5, 2), 9);
  }

  private static void lastOf512Calls() {
    EggScales x = new EggScales();
    int calls = 0;
    for (char letter : "s1 0 1;".toCharArray()) {
      calls++;
      due.is("call " + calls, x.type(letter), calls);
    }
    calls++;
    due.is("call " + calls, x.barn(), 1);
    int mark = 1;
    while (calls < 512) {
      calls++;
      due.is("call " + calls + ": sets()", x.sets(0, mark % 99 + 1), mark);
      mark = mark % 99 + 1;
    }
  }
}
