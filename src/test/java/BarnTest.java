/** Promises 1 to 7: a new object, type, clear, barn, scale, egg, now. */
public final class BarnTest {
  private static final Due due = new Due();

  public static void main(String[] args) {
    newObject();
    typeAndClear();
    barnReads();
    barnFaults();
    barnTellsAllAnew();
    scaleTells();
    eggTells();
    nowTells();
    due.end();
  }

  private static void newObject() {
    EggScales x = new EggScales();
    for (int what = 0; what < 4; what++) {
      due.is("1: new count(" + what + ")", x.count(what), 0);
    }
    for (int what = 0; what < 5; what++) {
      due.is("1: new now(" + what + ")", x.now(what), 0);
    }
    due.is("1: new scale(0, 0)", x.scale(0, 0), -1);
    due.is("1: new egg(0, 0)", x.egg(0, 0), -1);
    due.is("1: new undo()", x.undo(), -2);
    due.is("1: new back(0)", x.back(0), -2);
    due.is("1: new back(1)", x.back(1), -2);
    due.is("1: new forget()", x.forget(), 0);
    due.is("1: new clear()", x.clear(), 0);
    due.is("1: new trace()", x.trace(), 0);
    due.is("1: new tested(1, 0)", x.tested(1, 0), -1);
  }

  private static void typeAndClear() {
    EggScales x = new EggScales();
    due.is("2: type(0)", x.type(0), 1);
    due.is("2: type(255)", x.type(255), 2);
    due.is("2: type(256)", x.type(256), -1);
    due.is("2: type(-1)", x.type(-1), -1);
    due.is("2: type(least)", x.type(Integer.MIN_VALUE), -1);
    due.is("2: type(most)", x.type(Integer.MAX_VALUE), -1);
    due.is("3: clear()", x.clear(), 2);
    due.is("3: clear() again", x.clear(), 0);
    for (int i = 1; i <= 120; i++) {
      due.is("2: letter " + i, x.type(32), i);
    }
    due.is("2: letter 121", x.type(32), -3);
    due.is("2: BAD goes ahead of FULL", x.type(256), -1);
    due.is("2: count(3)", x.count(3), 120);
    due.is("4: blanks alone", x.barn(), 0);
    due.is("4: the text is empty then", x.count(3), 0);
    due.is("2: type() behind barn()", x.type(32), 1);
  }

  private static void barnReads() {
    due.is("4: no text", Due.told(""), 0);
    due.is("4: one scale", Due.told("s1 0 1;"), 1);
    due.is("4: greatest numbers", Due.told("s99 9 9;e99 5;"), 2);
    due.is("4: blanks everywhere", Due.told("  s  5 0   3 ; e 7 0 ;  "), 2);
    due.is("4: eggs ahead of scales", Due.told("e1 0;s1 0 1;e2 0;"), 3);
    due.is("4: five scales, six eggs",
        Due.told("s1 0 1;s1 0 1;s1 0 1;s1 0 1;s1 0 1;e1 0;e1 0;e1 0;e1 0;e1 0;e1 0;"), 11);
    EggScales x = Due.barn("e7 3;s50 2 4;e8 5;s60 0 1;");
    due.is("4: mark of scale 0", x.scale(0, 0), 50);
    due.is("4: mark of scale 1", x.scale(1, 0), 60);
    due.is("4: weight of egg 1", x.egg(1, 0), 8);
    due.is("4: scales", x.count(0), 2);
    due.is("4: eggs", x.count(1), 2);
  }

  private static void barnFaults() {
    fault("s", 1);
    fault("s1", 2);
    fault("s1 0", 4);
    fault("s1 0 1", 6);
    fault("s1 0 1  ", 8);
    fault("e", 1);
    fault("e1 0", 4);
    fault("e1 0 ", 5);
    fault(";", 0);
    fault("  ;", 2);
    fault("5", 0);
    fault("s1 0 1;;", 7);
    fault("s;", 1);
    fault("ss", 1);
    fault("es1 0 1;", 1);
    fault("s0 0 1;", 1);
    fault("s100 0 1;", 1);
    fault("s99999999999999999999 0 1;", 1);
    fault("s4294967297 0 1;", 1);
    fault("s1 10 1;", 3);
    fault("s1 0 0;", 5);
    fault("s1 0 10;", 5);
    fault("s1 0 1 1;", 7);
    fault("s1 00 1;", 3);
    fault("s01 0 1;", 1);
    fault("e0 0;", 1);
    fault("e1 6;", 3);
    fault("e1 00;", 3);
    fault("e1 05;", 3);
    fault("e10;", 3);
    fault("e1 0 0;", 5);
    fault("e1x0;", 2);
    fault("e1 0;S", 5);
    fault("e1 0;\n", 5);
    fault("e1\t0;", 2);
    fault("e1-0;", 2);
    fault("e1 0;e1 0;e1 0;e1 0;e1 0;e1 0;e1 0;", 30);
    fault("s1 0 1;s1 0 1;s1 0 1;s1 0 1;s1 0 1; s1 0 1;", 36);
    // the first token at fault counts, whatever comes behind it
    fault("s1 0;x", 4);
    fault("e1 6 100", 3);
    EggScales x = new EggScales();
    x.type('e');
    x.type(0);
    due.is("4: letter 0", x.barn(), -11);
    x.clear();
    x.type(255);
    due.is("4: letter 255", x.barn(), -10);
    x.clear();
    Due.type(x, "e55 0;");
    x.clear();
    Due.type(x, "e5");
    due.is("4: letters that were cleared are not read", x.barn(), -12);
    faultChangesNothing();
  }

  private static void fault(String text, int place) {
    due.is("4: \"" + text + "\"", Due.told(text), -10 - place);
  }

  private static void faultChangesNothing() {
    EggScales x = Due.barn("s50 1 2;s40 1 2;e60 0;e45 3;");
    x.rolls(0);
    x.sets(1, 30);
    x.shifts(0);
    x.tested(9, -9);
    x.keep(0);
    Due.type(x, "s7 7 7;e9 5;e8 9;");
    due.is("4: fault", x.barn(), -25);
    due.is("4: the text stays", x.count(3), 17);
    due.is("4: scales stay", x.count(0), 2);
    due.is("4: eggs stay", x.count(1), 2);
    due.is("4: mark stays", x.scale(0, 0), 50);
    due.is("4: mark that was set stays", x.scale(1, 0), 30);
    due.is("4: sticks stay", x.scale(0, 1), 1);
    due.is("4: room stays", x.scale(0, 2), 2);
    due.is("4: place stays", x.scale(0, 4), 1);
    due.is("4: falls stay", x.scale(0, 3), 1);
    due.is("4: weight stays", x.egg(0, 0), 60);
    due.is("4: kind stays", x.egg(1, 1), 3);
    due.is("4: tests stay", x.count(2), 1);
    due.is("4: what may be undone stays", x.now(4), 3);
    due.is("4: image stays", x.back(0), 1);
  }

  private static void barnTellsAllAnew() {
    EggScales x = Due.barn("s50 1 2;s40 1 2;e60 0;e45 3;");
    x.rolls(0);
    x.rolls(1);
    x.sets(1, 30);
    x.shifts(0);
    x.tested(9, -9);
    x.keep(0);
    x.keep(1);
    Due.type(x, "s7 6 5;e9 5;e8 4;e1 2;");
    due.is("4: read anew", x.barn(), 4);
    due.is("4: anew: text", x.count(3), 0);
    due.is("4: anew: scales", x.count(0), 1);
    due.is("4: anew: eggs", x.count(1), 3);
    due.is("4: anew: tests", x.count(2), 0);
    due.is("4: anew: nest", x.now(0), 7);
    due.is("4: anew: fallen", x.now(3), 0);
    due.is("4: anew: may be undone", x.now(4), 0);
    due.is("4: anew: undo()", x.undo(), -2);
    due.is("4: anew: back(0)", x.back(0), -2);
    due.is("4: anew: back(1)", x.back(1), -2);
    due.is("4: anew: mark", x.scale(0, 0), 7);
    due.is("4: anew: place", x.scale(0, 4), 0);
    due.is("4: anew: the second scale is gone", x.scale(1, 0), -1);
    Due.type(x, "s1 1 1;s2 1 1;s3 1 1;");
    due.is("4: anew again", x.barn(), 3);
    for (int s = 0; s < 3; s++) {
      due.is("4: anew: place of " + s, x.scale(s, 4), s);
    }
    due.is("4: anew: eggs are gone", x.count(1), 0);
  }

  private static void scaleTells() {
    EggScales x = Due.barn("s50 2 4;s20 0 1;e60 0;e55 1;e30 0;");
    int[][] first = {{50, 2, 4, 0, 0, 0}, {20, 0, 1, 0, 1, 0}};
    scaleIs(x, first);
    x.rolls(0);
    x.rolls(1);
    x.rolls(2);
    x.shifts(0);
    x.sets(1, 25);
    scaleIs(x, new int[][] {{50, 2, 4, 2, 1, 3}, {25, 0, 1, 1, 0, 4}});
    for (int[] bad : new int[][] {{-1, 0}, {2, 0}, {0, -1}, {0, 6}, {Integer.MAX_VALUE, 0}, {Integer.MIN_VALUE, 0}}) {
      due.is("5: scale(" + bad[0] + ", " + bad[1] + ")", x.scale(bad[0], bad[1]), -1);
    }
  }

  private static void scaleIs(EggScales x, int[][] want) {
    for (int s = 0; s < want.length; s++) {
      for (int what = 0; what < 6; what++) {
        due.is("5: scale(" + s + ", " + what + ")", x.scale(s, what), want[s][what]);
      }
    }
  }

  private static void eggTells() {
    EggScales x = Due.barn("s50 0 9;s40 0 9;e51 0;e50 1;e49 2;e45 3;e39 4;e99 5;");
    int[] seems = {51, 50, 52, 45, 42, 49};
    int[] belongs = {0, 0, 1, 1, -9, 0};
    for (int e = 0; e < 6; e++) {
      due.is("6: kind of " + e, x.egg(e, 1), e);
      due.is("6: where is " + e, x.egg(e, 2), 0);
      due.is("6: seems " + e, x.egg(e, 3), seems[e]);
      due.is("6: belongs " + e, x.egg(e, 4), belongs[e]);
    }
    x.rolls(0);
    x.rolls(3);
    x.drops(4);
    due.is("6: in tray 0", x.egg(0, 2), 1);
    due.is("6: in tray 1", x.egg(3, 2), 2);
    due.is("6: nowhere", x.egg(4, 2), 9);
    due.is("6: a cracked one has leaked", x.egg(3, 0), 44);
    due.is("6: and seems so", x.egg(3, 3), 44);
    due.is("6: belongs, being nowhere", x.egg(4, 4), -9);
    x.sets(1, 39);
    due.is("6: belongs by the mark as set", x.egg(4, 4), 1);
    x.sets(0, 99);
    x.sets(1, 98);
    x.rolls(1);
    due.is("6: in the basket", x.egg(1, 2), 8);
    due.is("6: belongs to the basket", x.egg(1, 4), -9);
    x.shifts(0);
    due.is("6: belongs by the row", x.egg(5, 4), 1);
    due.is("6: a bantam's half is cut", Due.barn("e1 5;").egg(0, 3), 0);
    for (int[] bad : new int[][] {{-1, 0}, {6, 0}, {0, -1}, {0, 5}, {Integer.MAX_VALUE, 0}, {Integer.MIN_VALUE, 0}}) {
      due.is("6: egg(" + bad[0] + ", " + bad[1] + ")", x.egg(bad[0], bad[1]), -1);
    }
  }

  private static void nowTells() {
    EggScales x = Due.barn("s50 0 1;s40 0 9;e60 0;e55 0;e45 0;e30 0;e20 0;");
    due.is("7: nest", x.now(0), 31);
    x.rolls(0);
    x.rolls(1);
    x.rolls(2);
    x.rolls(3);
    due.is("7: nest then", x.now(0), 16);
    due.is("7: basket", x.now(1), 8);
    due.is("7: right (one found its tray full)", x.now(2), 13);
    due.is("7: fallen", x.now(3), 3);
    due.is("7: may be undone", x.now(4), 4);
    x.drops(3);
    due.is("7: one that is nowhere is not right", x.now(2), 5);
    due.is("7: nor in the basket", x.now(1), 0);
    x.sets(1, 46);
    due.is("7: right by marks as they are now", x.now(2), 1);
    due.is("7: now(5)", x.now(5), -1);
    due.is("7: now(-1)", x.now(-1), -1);
    EggScales five = Due.barn("s50 0 9;s40 0 9;s30 0 9;s20 0 9;s10 0 9;e15 0;e15 0;e45 0;");
    five.rolls(0);
    five.rolls(1);
    five.rolls(2);
    due.is("7: all five scales let fall", five.now(3), 3);
    EggScales none = Due.barn("e5 0;");
    due.is("7: one of the nest is not right", none.now(2), 0);
    none.rolls(0);
    due.is("7: no scales: right in the basket", none.now(2), 1);
  }
}
