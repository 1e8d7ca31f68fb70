/** Promises 8 to 14: rolls, takes, wipes, sets, shifts, drops, undo. */
public final class DoneTest {
  private static final Due due = new Due();
  private static final int[] NO_INDEX = {-1, 6, 99, Integer.MIN_VALUE, Integer.MAX_VALUE};

  public static void main(String[] args) {
    rollsByMarkAndRoom();
    rollsStiffly();
    rollsByKinds();
    takesBack();
    wipes();
    sets();
    shifts();
    drops();
    undoesEach();
    undoesTen();
    refusedIsNotUndone();
    due.end();
  }

  private static void rollsByMarkAndRoom() {
    EggScales x = Due.barn("s50 0 1;s40 0 1;e50 0;e50 0;e50 0;e49 0;e39 0;");
    due.is("8: as heavy as the mark", x.rolls(0), 0);
    due.is("8: the tray is full", x.rolls(1), 1);
    due.is("8: both are full", x.rolls(2), -9);
    due.is("8: it is in the basket", x.egg(2, 2), 8);
    x.drops(0);
    due.is("8: 1 too light, the next is full", x.rolls(3), -9);
    x.takes(1);
    due.is("8: there is room again", x.rolls(1), 0);
    due.is("8: not of the nest", x.rolls(1), -2);
    due.is("8: of the basket", x.rolls(2), -2);
    due.is("8: nowhere", x.rolls(0), -2);
    due.is("8: too light for all", x.rolls(4), -9);
    for (int e : NO_INDEX) {
      due.is("8: rolls(" + e + ")", x.rolls(e), -1);
    }
    due.is("8: rolls(5), of five", x.rolls(5), -1);
    EggScales none = Due.barn("e5 3;");
    due.is("8: no scales", none.rolls(0), -9);
    due.is("8: nothing to leak at", none.egg(0, 0), 5);
  }

  private static void rollsStiffly() {
    EggScales x = Due.barn("s50 2 9;e50 0;e50 0;e50 0;e51 0;e51 0;e52 0;");
    due.is("8: stiff by 0", x.rolls(0), 0);
    due.is("8: stiff by 1 of 2, cut", x.rolls(1), 0);
    due.is("8: stiff by 1", x.goes(2), -9);
    due.is("8: heavy enough", x.rolls(3), 0);
    due.is("8: 3 of 2, cut", x.rolls(4), 0);
    due.is("8: let fall four times", x.scale(0, 3), 4);
    x.takes(4);
    due.is("8: taken back, as stiff as it was", x.goes(4), -9);
    due.is("8: stiff by 2", x.rolls(5), 0);
    EggScales loose = Due.barn("s50 0 9;e50 0;e50 0;e50 0;");
    for (int e = 0; e < 3; e++) {
      due.is("8: sticks 0, never stiff", loose.rolls(e), 0);
    }
    EggScales often = Due.barn("s1 0 1;e1 0;");
    for (int i = 0; i < 120; i++) {
      often.rolls(0);
      often.takes(0);
    }
    due.is("8: let fall 120 times", often.scale(0, 3), 120);
  }

  private static void rollsByKinds() {
    EggScales x = Due.barn("s50 0 9;s25 0 9;e47 2;e46 2;e47 4;e99 5;e50 5;e51 5;");
    due.is("8: two yolks seem 3 more", x.rolls(0), 0);
    due.is("8: still too light", x.rolls(1), 1);
    due.is("8: a duck's too", x.rolls(2), 0);
    due.is("8: a bantam's half", x.rolls(3), 1);
    due.is("8: a bantam's half, 25", x.rolls(4), 1);
    due.is("8: weights stay", x.egg(0, 0) + x.egg(3, 0), 146);
    EggScales y = Due.barn("s90 0 9;s80 0 9;s49 0 9;s47 0 9;e50 3;e2 3;e1 3;e50 1;");
    due.is("8: 2 lighter ahead of the third", y.rolls(0), 3);
    due.is("8: 3 lighter as it falls", y.egg(0, 0), 47);
    due.is("8: past all", y.rolls(1), -9);
    due.is("8: 1 at least", y.egg(1, 0), 1);
    due.is("8: a brown one does not leak", y.rolls(3), 2);
    due.is("8: its weight", y.egg(3, 0), 50);
    EggScales z = Due.barn("s90 0 9;s80 0 9;e50 3;");
    z.rolls(0);
    due.is("8: each that it rolls past, the last too", z.egg(0, 0), 48);
  }

  private static void takesBack() {
    EggScales x = Due.barn("s50 0 1;e60 0;e70 3;e20 0;");
    x.rolls(0);
    x.rolls(1);
    due.is("9: in the nest", x.takes(2), -2);
    due.is("9: from the basket", x.takes(1), 2);
    due.is("9: what leaked stays lost", x.egg(1, 0), 69);
    due.is("9: from a tray", x.takes(0), 3);
    due.is("9: what fell stays", x.scale(0, 3), 1);
    due.is("9: the tray is empty", x.scale(0, 5), 0);
    x.drops(0);
    due.is("9: nowhere", x.takes(0), -2);
    due.is("9: nothing more to undo by what is refused", x.now(4), 5);
    for (int e : NO_INDEX) {
      due.is("9: takes(" + e + ")", x.takes(e), -1);
    }
  }

  private static void wipes() {
    EggScales x = Due.barn("s50 1 9;e50 0;e50 0;");
    due.is("10: never let fall", x.wipes(0), -2);
    x.rolls(0);
    due.is("10: stiff", x.goes(1), -9);
    due.is("10: had let fall", x.wipes(0), 1);
    due.is("10: not stiff", x.goes(1), 0);
    due.is("10: the egg stays in its tray", x.scale(0, 5), 1);
    due.is("10: again", x.wipes(0), -2);
    for (int s : NO_INDEX) {
      due.is("10: wipes(" + s + ")", x.wipes(s), -1);
    }
    due.is("10: wipes(1), of one", x.wipes(1), -1);
  }

  private static void sets() {
    EggScales x = Due.barn("s50 0 9;e60 0;");
    due.is("11: it is so", x.sets(0, 50), -2);
    due.is("11: to 99", x.sets(0, 99), 50);
    due.is("11: rolls on", x.goes(0), -9);
    due.is("11: to 1", x.sets(0, 1), 99);
    due.is("11: the mark", x.scale(0, 0), 1);
    due.is("11: falls", x.goes(0), 0);
    due.is("11: 0", x.sets(0, 0), -1);
    due.is("11: 100", x.sets(0, 100), -1);
    due.is("11: below", x.sets(0, Integer.MIN_VALUE), -1);
    for (int s : NO_INDEX) {
      due.is("11: sets(" + s + ", 5)", x.sets(s, 5), -1);
    }
    due.is("11: sets(1, 5), of one", x.sets(1, 5), -1);
  }

  private static void shifts() {
    EggScales x = Due.barn("s50 0 9;s40 0 9;s30 0 9;e60 0;");
    due.is("12: the last one", x.shifts(2), -2);
    due.is("12: the first", x.shifts(0), 1);
    due.is("12: the one behind is first", x.scale(1, 4), 0);
    due.is("12: falls from it", x.goes(0), 1);
    due.is("12: on", x.shifts(0), 2);
    due.is("12: last now", x.shifts(0), -2);
    due.is("12: place of 2", x.scale(2, 4), 1);
    due.is("12: 2 goes last", x.shifts(2), 2);
    due.is("12: place of 0", x.scale(0, 4), 1);
    for (int s : NO_INDEX) {
      due.is("12: shifts(" + s + ")", x.shifts(s), -1);
    }
    due.is("12: shifts(3), of three", x.shifts(3), -1);
    due.is("12: one scale alone", Due.barn("s5 0 1;").shifts(0), -2);
  }

  private static void drops() {
    EggScales x = Due.barn("s50 0 1;s40 0 1;e60 0;e45 0;e20 0;e60 0;");
    x.rolls(0);
    x.rolls(1);
    x.rolls(2);
    due.is("13: of tray 0", x.drops(0), 1);
    due.is("13: of tray 1", x.drops(1), 2);
    due.is("13: of the basket", x.drops(2), 8);
    due.is("13: of the nest", x.drops(3), 0);
    due.is("13: nowhere", x.drops(0), -2);
    due.is("13: no egg of the nest", x.now(0), 0);
    due.is("13: no egg of tray 0", x.scale(0, 5), 0);
    due.is("13: eggs are told still", x.count(1), 4);
    for (int e : NO_INDEX) {
      due.is("13: drops(" + e + ")", x.drops(e), -1);
    }
    due.is("13: drops(4), of four", x.drops(4), -1);
  }

  private static void undoesEach() {
    EggScales x = Due.barn("s90 1 1;s50 1 2;e60 3;e70 0;");
    due.is("14: none", x.undo(), -2);
    x.rolls(0);
    due.is("14: a roll", x.undo(), 0);
    due.is("14: it is in the nest", x.egg(0, 2), 0);
    due.is("14: it weighs as before", x.egg(0, 0), 60);
    due.is("14: nothing fell", x.scale(1, 3), 0);
    x.rolls(1);
    x.takes(1);
    due.is("14: a taking", x.undo(), 1);
    due.is("14: it is in its tray", x.egg(1, 2), 2);
    x.wipes(1);
    due.is("14: a wiping", x.undo(), 1);
    due.is("14: it let fall", x.scale(1, 3), 1);
    x.sets(0, 5);
    due.is("14: a setting", x.undo(), 1);
    due.is("14: the mark", x.scale(0, 0), 90);
    x.shifts(0);
    due.is("14: a shifting", x.undo(), 1);
    due.is("14: the place", x.scale(0, 4), 0);
    due.is("14: the other's place", x.scale(1, 4), 1);
    x.drops(1);
    due.is("14: a dropping", x.undo(), 1);
    due.is("14: it is in its tray again", x.egg(1, 2), 2);
    due.is("14: the first roll", x.undo(), 0);
    due.is("14: all in the nest", x.now(0), 3);
    due.is("14: none more", x.undo(), -2);
  }

  private static void undoesTen() {
    EggScales x = Due.barn("s1 0 1;");
    for (int mark = 2; mark <= 14; mark++) {
      x.sets(0, mark);
      due.is("14: may be undone at " + mark, x.now(4), Math.min(10, mark - 1));
    }
    for (int i = 9; i >= 0; i--) {
      due.is("14: undo with " + i + " more", x.undo(), i);
      due.is("14: mark with " + i + " more", x.scale(0, 0), 4 + i);
    }
    due.is("14: older ones are lost", x.undo(), -2);
    due.is("14: the mark stays", x.scale(0, 0), 4);
    x.sets(0, 70);
    x.sets(0, 80);
    due.is("14: anew", x.undo(), 1);
    due.is("14: the mark then", x.scale(0, 0), 70);
  }

  private static void refusedIsNotUndone() {
    EggScales x = Due.barn("s50 0 9;e60 0;e60 0;");
    x.rolls(0);
    x.rolls(0);
    x.rolls(7);
    x.takes(1);
    x.takes(7);
    x.wipes(7);
    x.sets(0, 50);
    x.sets(0, 0);
    x.shifts(0);
    x.shifts(7);
    x.drops(7);
    x.keep(0);
    x.tested(5, 0);
    x.rate(1, 0);
    x.goes(1);
    x.order(0);
    x.row(0);
    due.is("14: one may be undone", x.now(4), 1);
    x.drops(1);
    x.drops(1);
    due.is("14: two may be undone", x.now(4), 2);
    x.undo();
    due.is("14: the egg is in the nest again", x.now(0), 2);
    due.is("14: the first", x.undo(), 0);
    due.is("14: tests are not undone", x.count(2), 1);
    x.rolls(0);
    x.wipes(0);
    x.wipes(0);
    due.is("14: a refused wiping is not known", x.now(4), 2);
  }
}
