/** Promises 20 and 21: box, boxes. */
public final class BoxTest {
  private static final Due due = new Due();

  public static void main(String[] args) {
    box();
    boxOfTraysAlone();
    boxes();
    wrong();
    due.end();
  }

  private static EggScales fallen(String eggs) {
    EggScales x = Due.barn("s1 0 9;" + eggs);
    for (int e = 0; e < x.count(1); e++) {
      x.rolls(e);
    }
    return x;
  }

  private static void boxIs(EggScales x, int n, int w, int bits, int over) {
    due.is("20: box(" + n + ", " + w + ", 0)", x.box(n, w, 0), bits);
    due.is("20: box(" + n + ", " + w + ", 1)", x.box(n, w, 1), over);
  }

  private static void box() {
    EggScales x = fallen("e60 0;e50 0;e40 0;e30 0;e20 0;e50 2;");
    boxIs(x, 1, 0, 16, 20);
    boxIs(x, 1, 20, 16, 0);
    boxIs(x, 1, 21, 8, 9);
    boxIs(x, 1, 41, 2, 9);
    boxIs(x, 1, 61, -9, -9);
    boxIs(x, 2, 90, 6, 0);
    boxIs(x, 2, 111, -9, -9);
    // 60 40 30, 60 50 20, 50 30 50: all of 130
    boxIs(x, 3, 130, 13, 0);
    boxIs(x, 6, 0, 63, 250);
    boxIs(x, 6, 250, 63, 0);
    boxIs(x, 6, 251, -9, -9);
    boxIs(x, 6, 600, -9, -9);
    boxIs(x, 1, 51, 1, 9);
    EggScales same = fallen("e10 0;e10 0;e10 0;e10 0;");
    boxIs(same, 2, 15, 3, 5);
    boxIs(same, 4, 15, 15, 25);
    boxIs(same, 5, 0, -9, -9);
  }

  private static void boxOfTraysAlone() {
    EggScales x = Due.barn("s50 0 9;s40 0 9;e60 0;e45 0;e20 0;e55 0;e51 3;e50 0;");
    boxIs(x, 1, 0, -9, -9);
    due.is("21: none in trays", x.boxes(1, 0), 0);
    x.rolls(0);
    x.rolls(1);
    x.rolls(2);
    x.rolls(3);
    x.drops(3);
    boxIs(x, 1, 0, 2, 45);
    boxIs(x, 2, 100, 3, 5);
    boxIs(x, 3, 0, -9, -9);
    due.is("21: two in trays", x.boxes(1, 0), 2);
    x.sets(0, 99);
    x.rolls(4);
    boxIs(x, 2, 95, 18, 0);
    due.is("20: nothing to undo but what was done", x.now(4), 7);
    due.is("20: eggs stay", x.egg(4, 2), 2);
  }

  private static void boxes() {
    EggScales x = fallen("e60 0;e50 0;e40 0;e30 0;e20 0;e10 0;");
    due.is("21: one each", x.boxes(1, 0), 6);
    due.is("21: one each, of 30", x.boxes(1, 30), 4);
    due.is("21: pairs", x.boxes(2, 0), 3);
    due.is("21: pairs of 70", x.boxes(2, 70), 3);
    due.is("21: pairs of 71", x.boxes(2, 71), 2);
    due.is("21: pairs of 110", x.boxes(2, 110), 1);
    due.is("21: pairs of 111", x.boxes(2, 111), 0);
    due.is("21: threes of 100", x.boxes(3, 100), 2);
    due.is("21: threes of 106", x.boxes(3, 106), 1);
    due.is("21: fours", x.boxes(4, 0), 1);
    due.is("21: fives of 200", x.boxes(5, 200), 1);
    due.is("21: all", x.boxes(6, 210), 1);
    due.is("21: more than all", x.boxes(6, 211), 0);
    // the lightest box first would leave one box alone
    EggScales y = fallen("e60 0;e31 0;e30 0;e1 0;");
    due.is("21: not the lightest first", y.boxes(2, 60), 2);
  }

  private static void wrong() {
    EggScales x = fallen("e60 0;");
    for (int[] bad : new int[][] {{0, 0}, {7, 0}, {-1, 0}, {1, -1}, {1, 601}, {Integer.MAX_VALUE, 0},
        {1, Integer.MIN_VALUE}}) {
      due.is("20: box(" + bad[0] + ", " + bad[1] + ", 0)", x.box(bad[0], bad[1], 0), -1);
      due.is("21: boxes(" + bad[0] + ", " + bad[1] + ")", x.boxes(bad[0], bad[1]), -1);
    }
    due.is("20: what -1", x.box(1, 0, -1), -1);
    due.is("20: what 2", x.box(1, 0, 2), -1);
  }
}
