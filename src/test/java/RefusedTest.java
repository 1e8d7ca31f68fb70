import java.util.EnumSet;

/** 'Refused, and nothing changes, the first of these: BAD, STATE, FULL'; and what each call leaves as it was. */
public final class RefusedTest {
  private static final Due due = new Due();
  private static final Twins twins = new Twins(due);
  private static final int BAD = -1, STATE = -2, FULL = -3, NO = -1000000;
  private static final int LEAST = Integer.MIN_VALUE, MOST = Integer.MAX_VALUE;

  public static void main(String[] args) {
    for (int bad : new int[] {LEAST, -1, 3, MOST}) {
      scaleIsBad(bad);
    }
    for (int bad : new int[] {LEAST, -1, 6, MOST}) {
      eggIsBad(bad);
    }
    whatIsBad();
    numberIsBad();
    stateOfEggs();
    stateOfScales();
    stateOfImagesAndUndo();
    full();
    faults();
    asksChangeNothing();
    eachChangesItsOwn();
    undoBringsAllBack();
    backBringsAllBack();
    due.end();
  }

  /** Eggs 2, 3 in the nest, 0, 1 in trays 0, 1, 4 in the basket, 5 nowhere; something of all that can be kept. */
  private static long busy(EggScales x) {
    Due.type(x, "s50 1 1;s40 2 2;s30 0 9;e60 0;e45 3;e35 5;e70 4;e20 0;e52 1;");
    x.barn();
    x.rolls(0);
    x.rolls(1);
    x.rolls(4);
    x.keep(0);
    x.sets(2, 33);
    x.shifts(0);
    x.drops(5);
    x.keep(1);
    x.wipes(0);
    x.tested(60, 0);
    x.tested(45, 1);
    x.rate(3, 0);
    Due.type(x, "s9 1 1;e8 2;");
    return 0;
  }

  /** The same with ten steps known and some lost, with six tests and 120 letters. */
  private static long brimful(EggScales x) {
    busy(x);
    for (int mark = 34; mark <= 39; mark++) {
      x.sets(2, mark);
    }
    for (int i = 0; i < 4; i++) {
      x.tested(60, 0);
    }
    Due.type(x, " ".repeat(108));
    return 0;
  }

  private static long nothing(EggScales x) {
    return 0;
  }

  private static long scalesAndEggs(EggScales x) {
    Due.type(x, "s50 1 1;s40 2 2;s30 0 9;e60 0;e45 3;");
    return x.barn();
  }

  private static void refused(String name, Twins.Calls call, long want) {
    twins.refused(name, RefusedTest::busy, call, want);
  }

  private static void scaleIsBad(int s) {
    refused("5: scale(" + s + ", 0)", x -> x.scale(s, 0), BAD);
    refused("10: wipes(" + s + ")", x -> x.wipes(s), BAD);
    refused("11: sets(" + s + ", 5)", x -> x.sets(s, 5), BAD);
    refused("12: shifts(" + s + ")", x -> x.shifts(s), BAD);
    refused("17: row(" + s + ")", x -> x.row(s == -1 ? -2 : s), BAD);
    refused("18: reset(2, " + s + ")", x -> x.reset(2, s), BAD);
    refused("18: reset(0, " + s + "), STATE as well", x -> x.reset(0, s), BAD);
    refused("22: tested(5, " + s + ")", x -> x.tested(5, s), BAD);
    twins.refused("22: tested(5, " + s + "), FULL as well", RefusedTest::brimful, x -> x.tested(5, s), BAD);
  }

  private static void eggIsBad(int e) {
    refused("6: egg(" + e + ", 0)", x -> x.egg(e, 0), BAD);
    refused("8: rolls(" + e + ")", x -> x.rolls(e), BAD);
    refused("9: takes(" + e + ")", x -> x.takes(e), BAD);
    refused("13: drops(" + e + ")", x -> x.drops(e), BAD);
    refused("15: goes(" + e + ")", x -> x.goes(e), BAD);
    refused("18: reset(" + e + ", 0)", x -> x.reset(e, 0), BAD);
    refused("26: rate(0, " + e + ")", x -> x.rate(0, e), NO);
    refused("26: rate(3, " + e + ")", x -> x.rate(3, e), NO);
  }

  private static void whatIsBad() {
    for (int bad : new int[] {LEAST, -1, 6, MOST}) {
      refused("5: scale(0, " + bad + ")", x -> x.scale(0, bad), BAD);
      refused("6: egg(0, " + bad + ")", x -> x.egg(0, bad), BAD);
      refused("7: now(" + bad + ")", x -> x.now(bad), BAD);
      refused("19: cracks(5, 1, " + bad + ")", x -> x.cracks(5, 1, bad), BAD);
      refused("20: box(1, 0, " + bad + ")", x -> x.box(1, 0, bad), BAD);
      refused("24: can(" + bad + ")", x -> x.can(bad), BAD);
      refused("26: rate(" + bad + ", 0)", x -> x.rate(bad, 0), NO);
      refused("29: count(" + bad + ")", x -> x.count(bad), BAD);
    }
    refused("6: egg(0, 5)", x -> x.egg(0, 5), BAD);
    refused("7: now(5)", x -> x.now(5), BAD);
    refused("19: cracks(5, 1, 2)", x -> x.cracks(5, 1, 2), BAD);
    refused("20: box(1, 0, 2)", x -> x.box(1, 0, 2), BAD);
    refused("24: can(3)", x -> x.can(3), BAD);
    refused("29: count(4)", x -> x.count(4), BAD);
  }

  private static void numberIsBad() {
    for (int bad : new int[] {LEAST, -1, 601, MOST}) {
      refused("2: type(" + bad + ")", x -> x.type(bad), BAD);
      refused("11: sets(0, " + bad + ")", x -> x.sets(0, bad), BAD);
      refused("16: order(" + bad + ")", x -> x.order(bad == -1 ? -2 : bad), BAD);
      refused("19: cracks(" + bad + ", 0, 0)", x -> x.cracks(bad, 0, 0), BAD);
      refused("19: cracks(0, " + bad + ", 0)", x -> x.cracks(0, bad, 0), BAD);
      refused("20: box(" + bad + ", 0, 0)", x -> x.box(bad, 0, 0), BAD);
      refused("20: box(1, " + bad + ", 0)", x -> x.box(1, bad, 0), BAD);
      refused("21: boxes(" + bad + ", 0)", x -> x.boxes(bad, 0), BAD);
      refused("21: boxes(1, " + bad + ")", x -> x.boxes(1, bad), BAD);
      refused("22: tested(" + bad + ", 0)", x -> x.tested(bad, 0), BAD);
      refused("27: keep(" + bad + ")", x -> x.keep(bad), BAD);
      refused("28: back(" + bad + ")", x -> x.back(bad), BAD);
    }
    refused("2: type(256)", x -> x.type(256), BAD);
    refused("11: sets(0, 0)", x -> x.sets(0, 0), BAD);
    refused("11: sets(0, 100)", x -> x.sets(0, 100), BAD);
    refused("16: order(6)", x -> x.order(6), BAD);
    refused("22: tested(0, 0)", x -> x.tested(0, 0), BAD);
    refused("22: tested(100, -9)", x -> x.tested(100, -9), BAD);
    refused("27: keep(2)", x -> x.keep(2), BAD);
    refused("28: back(2)", x -> x.back(2), BAD);
  }

  private static void stateOfEggs() {
    for (int e : new int[] {0, 1, 4, 5}) {
      refused("8: rolls(" + e + "), not in the nest", x -> x.rolls(e), STATE);
      refused("15: goes(" + e + "), not in the nest", x -> x.goes(e), STATE);
      refused("18: reset(" + e + ", 0), not in the nest", x -> x.reset(e, 0), STATE);
    }
    for (int e : new int[] {2, 3}) {
      refused("9: takes(" + e + "), it is in the nest", x -> x.takes(e), STATE);
    }
    refused("9: takes(5), nowhere", x -> x.takes(5), STATE);
    refused("13: drops(5), nowhere", x -> x.drops(5), STATE);
    twins.refused("8: rolls(0), ten known", RefusedTest::brimful, x -> x.rolls(0), STATE);
    twins.refused("9: takes(2), ten known", RefusedTest::brimful, x -> x.takes(2), STATE);
    twins.refused("13: drops(5), ten known", RefusedTest::brimful, x -> x.drops(5), STATE);
  }

  private static void stateOfScales() {
    refused("10: wipes(0), wiped", x -> x.wipes(0), STATE);
    refused("10: wipes(2), it never let fall", x -> x.wipes(2), STATE);
    refused("11: sets(0, 50), as told", x -> x.sets(0, 50), STATE);
    refused("11: sets(2, 33), as set", x -> x.sets(2, 33), STATE);
    refused("12: shifts(2), the last one", x -> x.shifts(2), STATE);
    twins.refused("10: wipes(2), ten known", RefusedTest::brimful, x -> x.wipes(2), STATE);
    twins.refused("11: sets(2, 39), ten known", RefusedTest::brimful, x -> x.sets(2, 39), STATE);
    twins.refused("12: shifts(2), ten known", RefusedTest::brimful, x -> x.shifts(2), STATE);
  }

  private static void stateOfImagesAndUndo() {
    for (int image = 0; image < 2; image++) {
      int i = image;
      twins.refused("28: back(" + i + ") of a new object", RefusedTest::nothing, x -> x.back(i), STATE);
      twins.refused("28: back(" + i + "), none was kept", RefusedTest::scalesAndEggs, x -> x.back(i), STATE);
      Twins.Calls otherKept = x -> {
        scalesAndEggs(x);
        x.rolls(1);
        x.keep(1 - i);
        x.rolls(0);
        x.tested(60, 0);
        x.rate(1, 0);
        return x.type('e');
      };
      twins.refused("28: back(" + i + "), the other was kept", otherKept, x -> x.back(i), STATE);
    }
    twins.refused("14: undo() of a new object", RefusedTest::nothing, EggScales::undo, STATE);
    twins.refused("14: undo(), nothing was done", RefusedTest::scalesAndEggs, EggScales::undo, STATE);
  }

  private static void full() {
    twins.refused("2: letter 121", RefusedTest::brimful, x -> x.type(32), FULL);
    twins.refused("2: letter 121, another one", RefusedTest::brimful, x -> x.type('e'), FULL);
    twins.refused("2: type(256), FULL as well", RefusedTest::brimful, x -> x.type(256), BAD);
    twins.refused("2: type(-1), FULL as well", RefusedTest::brimful, x -> x.type(-1), BAD);
    twins.refused("22: a seventh test", RefusedTest::brimful, x -> x.tested(1, 0), FULL);
    twins.refused("22: a seventh test, the basket", RefusedTest::brimful, x -> x.tested(1, -9), FULL);
    twins.refused("22: tested(0, 0), FULL as well", RefusedTest::brimful, x -> x.tested(0, 0), BAD);
    twins.refused("22: tested(100, 0), FULL as well", RefusedTest::brimful, x -> x.tested(100, 0), BAD);
  }

  /** Behind the twelve letters that busy() leaves. */
  private static void faults() {
    fault("x", 12);
    fault("s1 0 1", 18);
    fault("s1 0 10;", 17);
    fault("e100 0;", 13);
    fault("e01 0;", 13);
    fault("e1 6;", 15);
    fault(";", 12);
    fault("7", 12);
  }

  private static void fault(String tail, int place) {
    Twins.Calls past = x -> {
      busy(x);
      Due.type(x, tail);
      return 0;
    };
    twins.refused("4: a fault by \"" + tail + "\"", past, EggScales::barn, -10 - place);
  }

  private static void leaves(String name, Twins.Calls call, Twins.Part... but) {
    EnumSet<Twins.Part> parts = EnumSet.allOf(Twins.Part.class);
    for (Twins.Part part : but) {
      parts.remove(part);
    }
    twins.leaves(name, RefusedTest::busy, call, parts);
    twins.leaves(name + ", to the brim,", RefusedTest::brimful, call, parts);
  }

  /** 'As things are NOW; nothing is changed.' */
  private static void asksChangeNothing() {
    for (int n = -1; n < 6; n++) {
      int k = n;
      leaves("5: scale(1, " + k + ")", x -> x.scale(1, k));
      leaves("6: egg(1, " + k + ")", x -> x.egg(1, k));
      leaves("7: now(" + k + ")", x -> x.now(k));
      leaves("15: goes(" + k + ")", x -> x.goes(k));
      leaves("16: order(" + k + ")", x -> x.order(k));
      leaves("17: row(" + k + ")", x -> x.row(k));
      leaves("18: reset(2, " + k + ")", x -> x.reset(2, k));
      leaves("19: cracks(3, " + k + ", 0)", x -> x.cracks(3, k, 0));
      leaves("20: box(" + k + ", 50, 0)", x -> x.box(k, 50, 0));
      leaves("21: boxes(" + k + ", 50)", x -> x.boxes(k, 50));
      leaves("24: can(" + k + ")", x -> x.can(k));
      leaves("29: count(" + k + ")", x -> x.count(k));
    }
    leaves("25: next()", EggScales::next);
    leaves("30: trace()", EggScales::trace);
  }

  private static void eachChangesItsOwn() {
    Twins.Part[] moved = {Twins.Part.FLOOR, Twins.Part.UNDO};
    leaves("8: rolls(3)", x -> x.rolls(3), moved);
    leaves("9: takes(0)", x -> x.takes(0), moved);
    leaves("10: wipes(1)", x -> x.wipes(1), moved);
    leaves("11: sets(0, 7)", x -> x.sets(0, 7), moved);
    leaves("12: shifts(0)", x -> x.shifts(0), moved);
    leaves("13: drops(0)", x -> x.drops(0), moved);
    leaves("14: undo()", EggScales::undo, moved);
    leaves("28: back(0)", x -> x.back(0), moved);
    leaves("28: back(1)", x -> x.back(1), moved);
    leaves("2: type(';')", x -> x.type(';'), Twins.Part.TEXT);
    leaves("3: clear()", EggScales::clear, Twins.Part.TEXT);
    leaves("22: tested(30, 2)", x -> x.tested(30, 2), Twins.Part.TESTS);
    leaves("23: forget()", EggScales::forget, Twins.Part.TESTS);
    leaves("26: rate(4, 3)", x -> x.rate(4, 3), Twins.Part.TRACE);
    leaves("27: keep(0)", x -> x.keep(0), Twins.Part.IMAGE_0);
    leaves("27: keep(1)", x -> x.keep(1), Twins.Part.IMAGE_1);
    twins.leaves("4: barn()", RefusedTest::busy, EggScales::barn, EnumSet.of(Twins.Part.TRACE));
  }

  private static void undoBringsAllBack() {
    Twins.Calls[] sorts = {x -> x.rolls(2), x -> x.rolls(3), x -> x.takes(0), x -> x.takes(1), x -> x.takes(4),
        x -> x.wipes(1), x -> x.sets(0, 7), x -> x.sets(2, 99), x -> x.shifts(0), x -> x.shifts(1), x -> x.drops(0),
        x -> x.drops(2), x -> x.drops(4)};
    for (int i = 0; i < sorts.length; i++) {
      Twins.Calls sort = sorts[i];
      Twins.Calls doneAndUndone = x -> {
        due.isTrue("14: not refused", sort.on(x) != STATE);
        return x.undo();
      };
      twins.leaves("14: sort " + i + " undone", RefusedTest::busy, doneAndUndone, EnumSet.allOf(Twins.Part.class));
      EnumSet<Twins.Part> butOldest = EnumSet.complementOf(EnumSet.of(Twins.Part.UNDO));
      twins.leaves("14: sort " + i + " undone, ten known,", RefusedTest::brimful, doneAndUndone, butOldest);
    }
  }

  private static void backBringsAllBack() {
    Twins.Calls kept = x -> {
      busy(x);
      return x.keep(0);
    };
    Twins.Calls changedAndBack = x -> {
      x.rolls(2);
      x.takes(1);
      x.rolls(1);
      x.drops(3);
      x.wipes(1);
      x.sets(1, 88);
      x.shifts(1);
      return x.back(0);
    };
    EnumSet<Twins.Part> butUndo = EnumSet.complementOf(EnumSet.of(Twins.Part.UNDO));
    twins.leaves("28: changed, and back(0)", kept, changedAndBack, butUndo);
  }
}
