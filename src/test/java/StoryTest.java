/** 'What it is': one small run for each of its clauses, in their order. */
public final class StoryTest {
  private static final Due due = new Due();

  public static void main(String[] args) {
    goOverTheRow();
    kindsOfEggs();
    doneAndUndone();
    whereEachWouldGo();
    most();
    boxes();
    oneScaleIsOff();
    oddsKindsImages();
    objectsDoNotShare();
    sameCallsSameAnswers();
    due.end();
  }

  private static void goOverTheRow() {
    EggScales x = Due.barn("s50 1 2;s40 0 1;e50 0;e50 0;e49 0;e45 0;e51 0;");
    due.is("each scale tips at its mark and lets the egg fall into a tray", x.rolls(0), 0);
    due.is("into a tray", x.scale(0, 5), 1);
    due.is("the more stiffly the more has fallen: as heavy an egg", x.goes(1), 1);
    due.is("the more stiffly the more has fallen: 1 heavier", x.goes(4), 0);
    due.is("what is too light rolls on to the next one", x.rolls(2), 1);
    due.is("what finds the tray full rolls on, at last into a basket", x.rolls(3), -9);
    due.is("into a basket", x.now(1), 8);
  }

  private static void kindsOfEggs() {
    EggScales x = Due.barn("s50 0 9;s48 0 9;e47 2;e49 3;e47 0;");
    due.is("those with two yolks seem heavier", x.rolls(0), 0);
    due.is("one that does not", x.rolls(2), -9);
    due.is("cracked ones roll on", x.rolls(1), 1);
    due.is("cracked ones leak as they roll on", x.egg(1, 0), 48);
    due.is("the others do not", x.egg(2, 0), 47);
    due.is("told by a text", x.count(0) * 10 + x.count(1), 23);
  }

  /** 'Rolled, taken back, wiped, set anew, dropped, all of it undone'. */
  private static void doneAndUndone() {
    EggScales x = Due.barn("s50 1 9;s40 0 9;e60 0;e45 0;");
    due.is("rolled", x.rolls(0), 0);
    due.is("taken back", x.takes(0), 2);
    due.is("wiped", x.wipes(0), 1);
    due.is("set anew", x.sets(0, 70), 50);
    due.is("dropped", x.drops(1), 0);
    due.is("undone: it is in the nest", x.undo() * 10 + x.egg(1, 2), 40);
    due.is("undone: the mark", x.undo() * 100 + x.scale(0, 0), 350);
    due.is("undone: it let fall", x.undo() * 10 + x.scale(0, 3), 21);
    due.is("undone: it is in the tray", x.undo() * 10 + x.egg(0, 2), 11);
    due.is("undone: it is in the nest, nothing fell", x.undo() * 100 + x.egg(0, 2) * 10 + x.scale(0, 3), 0);
    due.is("all of it", x.undo(), -2);
  }

  private static void whereEachWouldGo() {
    EggScales x = Due.barn("s50 0 9;s40 0 9;e60 0;e47 2;");
    due.is("where each would go", x.goes(0), 0);
    due.is("where each would go, the other", x.goes(1), 0);
    x.rolls(0);
    x.rolls(1);
    due.is("whether it is where it belongs: one is", x.now(2), 1);
    due.is("where it belongs", x.egg(1, 4), 1);
  }

  private static void most() {
    EggScales x = Due.barn("s50 0 1;s40 0 9;e47 2;e60 0;");
    due.is("by which order of eggs most are: how many", x.order(-1), 2);
    due.is("by which order of eggs most are: the first", x.order(0), 1);
    due.is("by which order of eggs most are: the second", x.order(1), 0);
    due.is("by which order of scales most are: how many", x.row(-1), 2);
    due.is("by which order of scales most are: the first", x.row(0), 1);
    due.is("by which order of scales most are: the second", x.row(1), 0);
    due.is("the least new marks by which one falls where told", x.reset(1, 1), 11);
  }

  private static void boxes() {
    EggScales x = Due.barn("s1 0 9;e60 0;e52 0;e50 0;e41 0;");
    for (int e = 0; e < 4; e++) {
      x.rolls(e);
    }
    due.is("boxes that weigh enough with least over: which", x.box(2, 100, 0), 9);
    due.is("boxes that weigh enough with least over: how much", x.box(2, 100, 1), 1);
    due.is("how many boxes", x.boxes(2, 100), 2);
  }

  private static void oneScaleIsOff() {
    EggScales x = Due.barn("s60 0 1;s40 0 1;");
    due.is("by test eggs", x.tested(56, 0), 1);
    due.is("by test eggs, two", x.tested(54, 1), 2);
    due.is("which one scale is off", x.can(1), 1);
    due.is("by how much: -5 or -4", x.can(0), 2);
    due.is("which weight to try next", x.next(), 55);
    due.is("tried", x.tested(55, 1), 3);
    due.is("by how much: -4", x.can(0), 1);
  }

  private static void oddsKindsImages() {
    EggScales x = Due.barn("s50 0 9;e60 0;e45 0;");
    due.is("odds of cracks: upper", x.cracks(5, 0, 0), 1);
    due.is("odds of cracks: lower", x.cracks(5, 0, 1), 4);
    due.is("eggs by kinds", x.rate(1, 0), 62);
    due.is("images: kept", x.keep(1), 2);
    x.rolls(0);
    due.is("images: brought back", x.back(1), 2);
    due.is("images: it is in the nest", x.egg(0, 2), 0);
  }

  private static void objectsDoNotShare() {
    EggScales x = Due.barn("s50 0 9;e60 0;");
    x.keep(0);
    x.tested(5, -9);
    x.rate(0, 0);
    x.rolls(0);
    x.type('e');
    EggScales y = new EggScales();
    for (int what = 0; what < 4; what++) {
      due.is("another object, count(" + what + ")", y.count(what), 0);
    }
    due.is("another object, image", y.back(0), -2);
    due.is("another object, trace", y.trace(), 0);
    due.is("another object, undo", y.undo(), -2);
    Due.type(y, "s9 0 9;e8 0;");
    y.barn();
    due.is("the first stays, mark", x.scale(0, 0), 50);
    due.is("the first stays, egg", x.egg(0, 2), 1);
    due.is("the first stays, text", x.count(3), 1);
  }

  private static void sameCallsSameAnswers() {
    EggScales x = Due.barn("s50 1 1;s40 1 2;e57 2;e51 3;e50 0;");
    int[] first = asked(x);
    int[] second = asked(x);
    for (int i = 0; i < first.length; i++) {
      due.is("asked again, " + i, second[i], first[i]);
    }
  }

  private static int[] asked(EggScales x) {
    return new int[] {x.goes(1), x.order(-1), x.order(0), x.row(-1), x.row(0), x.reset(0, 1), x.cracks(3, 1, 0),
        x.box(1, 0, 0), x.boxes(1, 0), x.can(0), x.can(1), x.next(), x.order(1), x.row(1), x.goes(1), x.now(2)};
  }
}
