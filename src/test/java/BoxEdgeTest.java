/** Promises 20 and 21: each sentence that names an edge. */
public final class BoxEdgeTest {
  private static final Due due = new Due();

  public static void main(String[] args) {
    gramsJustEnough();
    heaviestBoxes();
    fewestGrams();
    leastBits();
    emptyTrays();
    traysAlone();
    weightsAsTheyAre();
    boxesOfEachSize();
    boxesNoEggInTwo();
    badAheadOfNone();
    due.end();
  }

  private static EggScales fallen(String... eggs) {
    EggScales x = Due.barn("s1 0 9;e" + String.join(";e", eggs) + ";");
    for (int e = 0; e < eggs.length; e++) {
      x.rolls(e);
    }
    return x;
  }

  private static void boxIs(EggScales x, int n, int w, int bits, int over) {
    due.is("20: box(" + n + ", " + w + ", 0)", x.box(n, w, 0), bits);
    due.is("20: box(" + n + ", " + w + ", 1)", x.box(n, w, 1), over);
  }

  /** 'Of w grams together or more'. */
  private static void gramsJustEnough() {
    EggScales one = fallen("50 0");
    boxIs(one, 1, 0, 1, 50);
    boxIs(one, 1, 49, 1, 1);
    boxIs(one, 1, 50, 1, 0);
    boxIs(one, 1, 51, -9, -9);
    boxIs(one, 2, 0, -9, -9);
    due.is("21: of 50", one.boxes(1, 50), 1);
    due.is("21: of 51", one.boxes(1, 51), 0);
    due.is("21: of two", one.boxes(2, 0), 0);
  }

  private static void heaviestBoxes() {
    EggScales x = fallen("99 0", "99 0", "99 0", "99 0", "99 0", "99 0");
    for (int n = 1; n <= 6; n++) {
      boxIs(x, n, 0, (1 << n) - 1, 99 * n);
      boxIs(x, n, 99 * n, (1 << n) - 1, 0);
      boxIs(x, n, 99 * n + 1, -9, -9);
      boxIs(x, n, 600, -9, -9);
      due.is("21: " + n + " of all they weigh", x.boxes(n, 99 * n), 6 / n);
      due.is("21: " + n + " of 1 more", x.boxes(n, 99 * n + 1), 0);
      due.is("21: " + n + " of 600", x.boxes(n, 600), 0);
    }
    boxIs(x, 7, 0, -1, -1);
    boxIs(x, 0, 0, -1, -1);
    boxIs(x, 6, 601, -1, -1);
    boxIs(x, 6, -1, -1, -1);
  }

  private static void fewestGrams() {
    EggScales x = fallen("90 0", "80 0", "1 0", "70 0");
    boxIs(x, 1, 0, 4, 1);
    boxIs(x, 1, 1, 4, 0);
    boxIs(x, 1, 2, 8, 68);
    boxIs(x, 2, 72, 6, 9);
    boxIs(x, 2, 82, 5, 9);
    boxIs(x, 2, 92, 10, 58);
    boxIs(x, 3, 0, 14, 151);
    boxIs(x, 3, 152, 13, 9);
  }

  private static void leastBits() {
    boxIs(fallen("50 0", "50 0", "50 0"), 1, 0, 1, 50);
    boxIs(fallen("50 0", "50 0", "50 0"), 2, 100, 3, 0);
    // eggs 1 and 2, eggs 0 and 3 weigh the same: bits 6 and 9
    boxIs(fallen("40 0", "45 0", "55 0", "60 0"), 2, 100, 6, 0);
    // eggs 0 and 1, eggs 2 and 3: bits 3 and 12
    boxIs(fallen("40 0", "60 0", "45 0", "55 0"), 2, 99, 3, 1);
    // the last two eggs alone: the highest bits
    boxIs(fallen("99 0", "99 0", "99 0", "99 0", "1 0", "2 0"), 2, 0, 48, 3);
  }

  private static void emptyTrays() {
    for (EggScales x : new EggScales[] {new EggScales(), Due.barn("s50 0 9;e60 0;"), Due.barn("e60 0;")}) {
      for (int n = 1; n <= 6; n++) {
        boxIs(x, n, 0, -9, -9);
        boxIs(x, n, 600, -9, -9);
        due.is("21: " + n + " of none", x.boxes(n, 0), 0);
      }
    }
  }

  private static void traysAlone() {
    EggScales x = Due.barn("s50 0 1;s40 0 9;e60 0;e60 0;e60 0;e30 0;e60 0;");
    x.rolls(0);
    x.rolls(1);
    x.rolls(2);
    x.rolls(3);
    x.drops(2);
    // egg 0 in tray 0, egg 1 in tray 1; egg 2 nowhere, egg 3 in the basket, egg 4 in the nest
    boxIs(x, 1, 0, 1, 60);
    boxIs(x, 2, 0, 3, 120);
    boxIs(x, 3, 0, -9, -9);
    due.is("21: two in trays", x.boxes(1, 0), 2);
    x.takes(0);
    boxIs(x, 1, 0, 2, 60);
    due.is("21: one in a tray", x.boxes(1, 0), 1);
    x.drops(1);
    boxIs(x, 1, 0, -9, -9);
    due.is("21: none in a tray", x.boxes(1, 0), 0);
    x.undo();
    x.undo();
    boxIs(x, 2, 120, 3, 0);
  }

  private static void weightsAsTheyAre() {
    boxIs(fallen("50 2"), 1, 51, -9, -9);
    boxIs(fallen("50 5"), 1, 50, 1, 0);
    EggScales x = Due.barn("s99 0 9;s1 0 9;e50 3;");
    x.rolls(0);
    boxIs(x, 1, 49, 1, 0);
    boxIs(x, 1, 50, -9, -9);
    due.is("21: of 49, what is left", x.boxes(1, 49), 1);
    due.is("21: of 50, what was told", x.boxes(1, 50), 0);
  }

  private static void boxesOfEachSize() {
    String[] eggs = {"50 0", "50 0", "50 0", "50 0", "50 0", "50 0"};
    int[] most = {6, 3, 2, 1, 1, 1};
    EggScales six = fallen(eggs);
    for (int n = 1; n <= 6; n++) {
      due.is("21: six eggs by " + n, six.boxes(n, 0), most[n - 1]);
    }
    EggScales five = fallen("50 0", "50 0", "50 0", "50 0", "50 0");
    int[] mostOfFive = {5, 2, 1, 1, 1, 0};
    for (int n = 1; n <= 6; n++) {
      due.is("21: five eggs by " + n, five.boxes(n, 0), mostOfFive[n - 1]);
    }
    due.is("21: bad, 0", six.boxes(0, 0), -1);
    due.is("21: bad, 7", six.boxes(7, 0), -1);
    due.is("21: bad, -1 grams", six.boxes(1, -1), -1);
    due.is("21: bad, 601 grams", six.boxes(1, 601), -1);
  }

  private static void boxesNoEggInTwo() {
    EggScales x = fallen("90 0", "10 0", "10 0", "10 0");
    due.is("21: the heavy one is in one alone", x.boxes(2, 100), 1);
    due.is("21: pairs of any grams", x.boxes(2, 20), 2);
    due.is("21: pairs of 21: one without it weighs 20", x.boxes(2, 21), 1);
    // 60 and 40, 70 and 30, 80 and 20: the two heaviest together would waste one
    EggScales y = fallen("80 0", "70 0", "60 0", "40 0", "30 0", "20 0");
    due.is("21: three pairs of 100", y.boxes(2, 100), 3);
    due.is("21: two pairs of 101", y.boxes(2, 101), 2);
    due.is("21: two threes of 150", y.boxes(3, 150), 2);
    due.is("21: one three of 151", y.boxes(3, 151), 1);
  }

  private static void badAheadOfNone() {
    EggScales x = new EggScales();
    due.is("20: what of 2, no eggs", x.box(1, 0, 2), -1);
    due.is("20: what of -1, no eggs", x.box(1, 0, -1), -1);
    due.is("20: 7 eggs of none", x.box(7, 0, 0), -1);
    due.is("20: 601 grams of none", x.box(1, 601, 0), -1);
    due.is("21: 7 eggs of none", x.boxes(7, 0), -1);
    due.is("21: 601 grams of none", x.boxes(1, 601), -1);
  }
}
