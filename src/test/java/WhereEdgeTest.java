import java.math.BigInteger;

/** Promises 15 to 19, with BELONGS and RIGHT (6, 7): each sentence that names an edge. */
public final class WhereEdgeTest {
  private static final Due due = new Due();

  public static void main(String[] args) {
    goesOrNot();
    belongsAtItsMark();
    belongsWhereverItIs();
    rightInTraysAndBasketAlone();
    orderOfEachNest();
    orderOfSeveral();
    orderOfNoneRight();
    orderOfSomeEggs();
    rowOfEachLength();
    rowOfSeveral();
    rowByThatOrder();
    resetToOneAtLeast();
    resetTo99AtMost();
    resetByFullTrays();
    resetByLeaks();
    resetTogether();
    resetRefused();
    cracksOfEachNest();
    cracksOfSomeEggs();
    due.end();
  }

  private static void goesOrNot() {
    EggScales x = Due.barn("s50 1 1;s40 0 1;e50 0;e51 0;e49 0;e39 0;e60 0;e60 0;");
    due.is("15: as heavy as the mark", x.goes(0), 0);
    due.is("15: 1 lighter", x.goes(2), 1);
    due.is("15: too light for all", x.goes(3), -9);
    x.rolls(0);
    due.is("15: in a tray", x.goes(0), -2);
    due.is("15: the first is full", x.goes(1), 1);
    x.rolls(1);
    due.is("15: both are full", x.goes(4), -9);
    x.takes(0);
    due.is("15: taken back: 1 too light for what is stiff by 1", x.goes(0), -9);
    due.is("15: heavy enough", x.goes(4), 0);
    x.rolls(3);
    due.is("15: in the basket", x.goes(3), -2);
    x.drops(4);
    due.is("15: nowhere", x.goes(4), -2);
    due.is("15: no scales", Due.barn("e99 0;").goes(0), -9);
  }

  private static void belongsAtItsMark() {
    String scales = "s60 1 1;s50 1 1;";
    int[] weights = {99, 61, 60, 59, 51, 50, 49, 1};
    int[] want = {0, 0, 0, 1, 1, 1, -9, -9};
    for (int i = 0; i < weights.length; i++) {
      for (int kind = 0; kind < 6; kind++) {
        EggScales x = Due.barn(scales + "e" + weights[i] + " " + kind + ";");
        due.is("6: kind " + kind + " of " + weights[i] + " belongs", x.egg(0, 4), want[i]);
      }
    }
    EggScales x = Due.barn(scales + "e60 0;e60 0;");
    x.rolls(0);
    due.is("6: stiff and full, it belongs there as well", x.egg(1, 4), 0);
    due.is("6: no scales", Due.barn("e99 0;").egg(0, 4), -9);
  }

  private static void belongsWhereverItIs() {
    EggScales x = Due.barn("s60 0 9;s50 0 9;e70 0;e55 3;e40 0;e70 0;");
    x.rolls(0);
    x.rolls(1);
    x.rolls(2);
    x.drops(3);
    int[] want = {0, 1, -9, 0};
    for (int e = 0; e < 4; e++) {
      due.is("6: belongs, egg " + e, x.egg(e, 4), want[e]);
    }
    x.sets(0, 71);
    due.is("6: in a tray, by the new mark", x.egg(0, 4), 1);
    due.is("6: nowhere, by the new mark", x.egg(3, 4), 1);
    x.sets(1, 54);
    due.is("6: 54 grams of what leaked", x.egg(1, 4), 1);
    x.sets(1, 55);
    due.is("6: 1 too light by what leaked", x.egg(1, 4), -9);
    x.sets(1, 1);
    x.shifts(0);
    x.sets(0, 2);
    due.is("6: the first of the row", x.egg(2, 4), 1);
  }

  private static void rightInTraysAndBasketAlone() {
    EggScales x = Due.barn("s60 0 1;e60 0;e60 0;e59 0;e57 2;");
    due.is("7: in the nest", x.now(2), 0);
    x.rolls(0);
    due.is("7: in its tray", x.now(2), 1);
    x.rolls(1);
    due.is("7: in the basket for want of room", x.now(2), 1);
    x.rolls(2);
    due.is("7: in the basket, where it belongs", x.now(2), 5);
    x.takes(0);
    due.is("7: in the nest again", x.now(2), 4);
    x.rolls(3);
    due.is("7: seems heavier: in a tray, but belongs to the basket", x.now(2), 4);
    x.drops(2);
    due.is("7: nowhere", x.now(2), 0);
    x.sets(0, 57);
    due.is("7: right by the new mark", x.now(2), 8);
  }

  private static void orderIs(String what, EggScales x, int many, int... eggs) {
    due.is("16: " + what + ", how many", x.order(-1), many);
    for (int k = 0; k < 6; k++) {
      due.is("16: " + what + ", order(" + k + ")", x.order(k), k < eggs.length ? eggs[k] : -9);
    }
    due.is("16: " + what + ", order(6)", x.order(6), -1);
    due.is("16: " + what + ", order(-2)", x.order(-2), -1);
  }

  /** A nest of none up to six: each that falls makes the scale 1 stiffer, so the lightest must be first. */
  private static void orderOfEachNest() {
    for (int n = 0; n <= 6; n++) {
      StringBuilder text = new StringBuilder("s50 1 9;");
      int[] eggs = new int[n];
      for (int e = 0; e < n; e++) {
        text.append("e" + (50 + n - 1 - e) + " 0;");
        eggs[e] = n - 1 - e;
      }
      EggScales x = Due.barn(text.toString());
      orderIs("a nest of " + n, x, n, eggs);
      for (int e = 0; e < n; e++) {
        x.rolls(eggs[e]);
      }
      orderIs(n + " in the tray, an empty nest", x, n);
      for (int e = 0; e < n; e++) {
        x.drops(e);
      }
      orderIs(n + " nowhere, an empty nest", x, 0);
    }
  }

  private static void orderOfSeveral() {
    orderIs("all alike", Due.barn("s50 0 9;" + "e60 0;".repeat(6)), 6, 0, 1, 2, 3, 4, 5);
    orderIs("the first is free, the others are not", Due.barn("s50 1 9;e50 0;e52 0;e51 0;"), 3, 0, 2, 1);
    // two of them find room, whichever they are
    orderIs("the first of those that find room", Due.barn("s50 0 2;e60 0;e60 0;e60 0;"), 2, 0, 1, 2);
    // egg 0 seems as heavy and would take the place: any order with it behind both is as good
    orderIs("the lowest first that can be", Due.barn("s50 0 2;e47 2;e60 0;e60 0;"), 3, 1, 2, 0);
  }

  private static void orderOfNoneRight() {
    orderIs("none is right by any", Due.barn("s60 0 9;e57 2;e58 4;"), 0, 0, 1);
    orderIs("no scales", Due.barn("e1 0;e99 5;"), 2, 0, 1);
  }

  private static void orderOfSomeEggs() {
    EggScales x = Due.barn("s50 1 9;e60 0;e52 0;e51 0;e47 2;e10 0;e70 0;");
    x.rolls(0);
    x.drops(4);
    x.rolls(5);
    // egg 3 seems 50, and the scale is stiff by 2: 52 falls, 51 does not; 47 is right in the basket
    orderIs("with some in trays, one nowhere", x, 4, 1, 2, 3);
    due.is("7: right as it is", x.now(2), 33);
    due.is("7: nest as it is", x.now(0), 14);
  }

  private static void rowIs(String what, EggScales x, int many, int... scales) {
    due.is("17: " + what + ", how many", x.row(-1), many);
    for (int k = 0; k < 6; k++) {
      due.is("17: " + what + ", row(" + k + ")", x.row(k), k < scales.length ? scales[k] : -1);
    }
    due.is("17: " + what + ", row(-2)", x.row(-2), -1);
  }

  /** Each tray has room for one: by marks going down each egg finds its own, by any other order not all do. */
  private static void rowOfEachLength() {
    for (int n = 0; n <= 5; n++) {
      StringBuilder text = new StringBuilder();
      int[] scales = new int[n];
      for (int s = 0; s < n; s++) {
        text.append("s" + (10 * s + 10) + " 0 1;");
        scales[s] = n - 1 - s;
      }
      for (int e = 0; e <= n; e++) {
        text.append("e" + (10 * (n - e) + 5) + " 0;");
      }
      rowIs(n + " scales", Due.barn(text.toString()), n + 1, scales);
    }
  }

  private static void rowOfSeveral() {
    rowIs("no eggs", Due.barn("s1 0 1;".repeat(5)), 0, 0, 1, 2, 3, 4);
    rowIs("all alike", Due.barn("s50 0 9;".repeat(5) + "e60 0;"), 1, 0, 1, 2, 3, 4);
    rowIs("none is right by any", Due.barn("s60 0 9;s61 0 9;e58 2;"), 0, 0, 1);
    // scale 1 must be ahead of scale 0; where scale 2 stands does not matter
    rowIs("the first of three", Due.barn("s50 0 1;s50 0 2;s99 0 9;e60 0;e60 0;"), 2, 1, 0, 2);
  }

  private static void rowByThatOrder() {
    EggScales x = Due.barn("s50 0 9;s40 0 9;e60 0;e60 0;");
    x.shifts(0);
    x.rolls(0);
    // egg 0 is in tray 1; by the order 1, 0 it is right, and egg 1 falls there too
    rowIs("an egg in a tray belongs by that order", x, 2, 1, 0);
    x.undo();
    rowIs("an empty tray", x, 2, 0, 1);
    due.is("5: the row stays as it is", x.scale(1, 4), 0);
    EggScales y = Due.barn("s50 1 9;s45 0 9;e51 0;e50 0;");
    // by numbers egg 0 makes scale 0 stiff, and egg 1 rolls on, but belongs there
    rowIs("eggs by numbers", y, 2, 1, 0);
  }

  private static void resetToOneAtLeast() {
    EggScales x = Due.barn("s99 1 9;e1 0;e1 5;e2 5;e3 5;e1 3;e99 2;");
    due.is("18: 99 down to 1", x.reset(0, 0), 98);
    due.is("18: seems 0: no mark is such", x.reset(1, 0), -9);
    due.is("18: seems 1", x.reset(2, 0), 98);
    due.is("18: half of 3", x.reset(3, 0), 98);
    due.is("18: cracked, of 1", x.reset(4, 0), 98);
    x.rolls(5);
    due.is("18: seems 1, stiff by 1: no mark is such", x.reset(0, 0), -9);
    x.sets(0, 1);
    due.is("18: nor if the mark is 1", x.reset(0, 0), -9);
    due.is("18: nor does it go there", x.goes(0), -9);
    EggScales y = Due.barn("s1 1 9;e2 0;e9 0;");
    y.rolls(1);
    due.is("18: seems 2, stiff by 1, mark 1", y.reset(0, 0), 0);
    due.is("18: it goes there", y.goes(0), 0);
  }

  private static void resetTo99AtMost() {
    EggScales x = Due.barn("s50 1 9;s1 0 9;e98 0;e99 0;e95 2;e96 4;e99 5;e99 0;");
    due.is("18: past 99", x.reset(0, 1), 49);
    due.is("18: past 100, which no mark is", x.reset(1, 1), -9);
    due.is("18: 95 and 3, past 99", x.reset(2, 1), 49);
    due.is("18: 96 and 3, past 100", x.reset(3, 1), -9);
    due.is("18: 49 rolls past as it is", x.reset(4, 1), 0);
    x.rolls(5);
    due.is("18: stiff by 1, past 99", x.reset(1, 1), 49);
    due.is("18: stiff by 1, past 98", x.reset(0, 1), 48);
    x.rolls(1);
    due.is("18: stiff by 2, past 97", x.reset(0, 1), 47);
  }

  private static void resetByFullTrays() {
    EggScales x = Due.barn("s50 0 1;s50 0 1;s50 0 1;e60 0;e60 0;e99 0;e40 0;");
    x.rolls(0);
    due.is("18: its tray is full", x.reset(2, 0), -9);
    due.is("18: past the full one, whatever its mark", x.reset(2, 1), 0);
    due.is("18: past the full one, not past the next", x.reset(2, 2), -9);
    due.is("18: past the full one, 10 less", x.reset(3, 1), 10);
    x.rolls(1);
    due.is("18: both are full", x.reset(2, 1), -9);
    due.is("18: past both", x.reset(2, 2), 0);
    x.takes(0);
    due.is("18: taken back, there is room", x.reset(2, 0), 0);
    due.is("18: and it can't roll past", x.reset(2, 2), -9);
  }

  private static void resetByLeaks() {
    EggScales x = Due.barn("s60 0 9;s60 0 9;s60 0 9;s60 0 9;s60 0 9;e62 3;e2 3;e1 3;e99 3;");
    due.is("18: the first", x.reset(0, 0), 0);
    due.is("18: past 62: 3", x.reset(0, 1), 3);
    due.is("18: past 61: 2 more", x.reset(0, 2), 5);
    due.is("18: past 60: 1 more; 59 falls by 1 less", x.reset(0, 3), 7);
    due.is("18: past 59 for nothing; 58 falls by 2 less", x.reset(0, 4), 8);
    due.is("18: 2 and then 1", x.reset(1, 1), 59);
    due.is("18: 1 at least", x.reset(1, 4), 59);
    due.is("18: 1 stays 1", x.reset(2, 4), 59);
    due.is("18: 99 can't roll past the first", x.reset(3, 1), -9);
    due.is("6: weights stay", x.egg(0, 0), 62);
  }

  private static void resetTogether() {
    EggScales x = Due.barn("s10 0 9;s20 0 9;s30 0 9;s40 0 9;s50 0 9;e45 0;");
    due.is("18: the first of five", x.reset(0, 0), 0);
    due.is("18: the second", x.reset(0, 1), 36);
    due.is("18: the third", x.reset(0, 2), 36 + 26);
    due.is("18: the fourth", x.reset(0, 3), 36 + 26 + 16);
    due.is("18: the last of five, by 5 less", x.reset(0, 4), 36 + 26 + 16 + 6 + 5);
    x.shifts(0);
    due.is("18: by the row as it is", x.reset(0, 0), 26);
    due.is("18: the first now", x.reset(0, 1), 0);
  }

  private static void resetRefused() {
    EggScales x = Due.barn("s50 0 9;s40 0 9;e60 0;e30 0;e60 0;");
    x.rolls(0);
    x.rolls(1);
    x.drops(2);
    for (int e = 0; e < 3; e++) {
      due.is("18: not in the nest, egg " + e, x.reset(e, 0), -2);
      due.is("18: BAD is ahead of STATE, scale 2, egg " + e, x.reset(e, 2), -1);
      due.is("18: BAD is ahead of STATE, scale -1, egg " + e, x.reset(e, -1), -1);
    }
    due.is("18: no such egg", x.reset(3, 0), -1);
    due.is("18: no such egg, no such scale", x.reset(3, 2), -1);
  }

  private static BigInteger power(int base, int times) {
    return BigInteger.valueOf(base).pow(times);
  }

  private static long choices(int n, int k) {
    return k == 0 ? 1 : choices(n - 1, k - 1) * n / k;
  }

  /** None up to six eggs, each x, each k, by the sum as it is taught. */
  private static void cracksOfEachNest() {
    for (int n = 0; n <= 6; n++) {
      EggScales x = Due.barn("e50 0;".repeat(n));
      for (int tenths = 0; tenths <= 10; tenths++) {
        for (int k = 0; k <= 6; k++) {
          BigInteger upper = BigInteger.ZERO;
          for (int i = 0; i <= Math.min(n, k); i++) {
            upper = upper.add(BigInteger.valueOf(choices(n, i)).multiply(power(tenths, i)).multiply(power(10 - tenths, n - i)));
          }
          BigInteger lower = power(10, n);
          BigInteger common = lower.gcd(upper);
          String name = "19: " + n + " eggs, cracks(" + tenths + ", " + k;
          due.is(name + ", 0)", x.cracks(tenths, k, 0), upper.divide(common).longValue());
          due.is(name + ", 1)", x.cracks(tenths, k, 1), lower.divide(common).longValue());
        }
      }
    }
  }

  private static void crackIs(String what, EggScales x, int upper, int lower) {
    due.is("19: " + what + ", upper", x.cracks(3, 0, 0), upper);
    due.is("19: " + what + ", lower", x.cracks(3, 0, 1), lower);
  }

  private static void cracksOfSomeEggs() {
    crackIs("no eggs", new EggScales(), 1, 1);
    crackIs("cracked ones alone", Due.barn("e50 3;e50 3;"), 1, 1);
    for (int kind : new int[] {0, 1, 2, 4, 5}) {
      crackIs("one of kind " + kind, Due.barn("e50 " + kind + ";e50 3;"), 7, 10);
    }
    EggScales x = Due.barn("s50 0 9;e60 0;e60 1;e40 0;e60 0;");
    crackIs("four", x, 2401, 10000);
    x.rolls(0);
    crackIs("one in a tray", x, 343, 1000);
    x.rolls(2);
    crackIs("one in the basket", x, 49, 100);
    x.drops(3);
    crackIs("one nowhere", x, 7, 10);
    x.rolls(1);
    crackIs("an empty nest", x, 1, 1);
    x.takes(0);
    crackIs("one taken back", x, 7, 10);
  }
}
