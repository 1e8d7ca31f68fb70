/** Promises 8 to 14, and what the document tells of rolling ahead of them: each sentence that names an edge. */
public final class RollEdgeTest {
  private static final Due due = new Due();

  public static void main(String[] args) {
    seems();
    tipsAtItsMark();
    stiffBySticks();
    stiffAboveThe99th();
    fullTrays();
    fullTrayByEggsNotByFalls();
    fallsAtMost999();
    crackedLeaksToOneAtLeast();
    crackedLeaksAheadOfTheNext();
    crackedLeaksAtFullTrays();
    takenFromEachPlace();
    wipedOnce();
    setBetween1And99();
    shiftedToTheLastPlace();
    droppedFromEachPlace();
    undoneTenAtMost();
    undoneRoundTheRing();
    undoneTheEleventhOfEachSort();
    undoneAtTheLast();
    due.end();
  }

  /** A barn of one egg and scales of these marks, each with room and never stiff. */
  private static EggScales barnOf(String egg, int... marks) {
    StringBuilder text = new StringBuilder("e" + egg + ";");
    for (int mark : marks) {
      text.append("s" + mark + " 0 9;");
    }
    return Due.barn(text.toString());
  }

  private static void seems() {
    int[] weights = {1, 2, 3, 98, 99};
    int[] halves = {0, 1, 1, 49, 49};
    for (int i = 0; i < weights.length; i++) {
      int w = weights[i];
      for (int kind = 0; kind < 6; kind++) {
        int want = kind == 2 || kind == 4 ? w + 3 : kind == 5 ? halves[i] : w;
        due.is("6: kind " + kind + " of " + w + " seems", barnOf(w + " " + kind, 50).egg(0, 3), want);
      }
    }
  }

  /** 'It SEEMS MARK and STIFF together at least': as heavy falls, 1 lighter rolls on. */
  private static void tipsAtItsMark() {
    String[] eggs = {"60 0", "60 1", "57 2", "60 3", "57 4"};
    for (String egg : eggs) {
      due.is("8: " + egg + " at 59", barnOf(egg, 59).rolls(0), 0);
      due.is("8: " + egg + " at 60", barnOf(egg, 60).rolls(0), 0);
      due.is("8: " + egg + " at 61", barnOf(egg, 61).rolls(0), -9);
    }
    due.is("8: a bantam of 99 at 49", barnOf("99 5", 49).rolls(0), 0);
    due.is("8: a bantam of 98 at 49", barnOf("98 5", 49).rolls(0), 0);
    due.is("8: a bantam of 97 at 49", barnOf("97 5", 49).rolls(0), -9);
    due.is("8: a bantam of 99 at 50", barnOf("99 5", 50).rolls(0), -9);
    due.is("8: a bantam of 1 at 1", barnOf("1 5", 1).rolls(0), -9);
    due.is("8: a bantam of 2 at 1", barnOf("2 5", 1).rolls(0), 0);
    due.is("8: 1 at 1", barnOf("1 0", 1).rolls(0), 0);
    due.is("8: 99 at 99", barnOf("99 0", 99).rolls(0), 0);
    due.is("8: 98 at 99", barnOf("98 0", 99).rolls(0), -9);
    due.is("8: the first that tips", barnOf("60 0", 61, 60, 59).rolls(0), 1);
    due.is("8: the last of five", barnOf("60 0", 99, 61, 61, 61, 60).rolls(0), 4);
    due.is("8: past all five", barnOf("60 0", 99, 61, 61, 61, 61).rolls(0), -9);
    due.is("8: no scales at all", barnOf("99 0").rolls(0), -9);
  }

  private static void rollAndTake(EggScales x, int e, int times) {
    for (int i = 0; i < times; i++) {
      x.rolls(e);
      x.takes(e);
    }
  }

  /** 'By how often it let fall by STICKS (cut; 0, if STICKS are 0)', by each number of STICKS. */
  private static void stiffBySticks() {
    for (int sticks = 1; sticks <= 9; sticks++) {
      EggScales x = Due.barn("s50 " + sticks + " 9;e50 0;e51 0;e52 0;e99 0;");
      rollAndTake(x, 3, sticks - 1);
      due.is("8: sticks " + sticks + ", stiff by 0 still", x.goes(0), 0);
      rollAndTake(x, 3, 1);
      due.is("8: sticks " + sticks + ", stiff by 1, too light", x.goes(0), -9);
      due.is("8: sticks " + sticks + ", stiff by 1", x.goes(1), 0);
      rollAndTake(x, 3, sticks - 1);
      due.is("8: sticks " + sticks + ", stiff by 1 still", x.goes(1), 0);
      rollAndTake(x, 3, 1);
      due.is("8: sticks " + sticks + ", stiff by 2, too light", x.goes(1), -9);
      due.is("8: sticks " + sticks + ", stiff by 2", x.goes(2), 0);
    }
    EggScales never = Due.barn("s50 0 9;e50 0;e99 0;");
    rollAndTake(never, 1, 100);
    due.is("8: sticks 0, never stiff", never.goes(0), 0);
    due.is("5: let fall", never.scale(0, 3), 100);
  }

  private static void stiffAboveThe99th() {
    EggScales x = Due.barn("s99 1 9;e99 2;e99 0;e99 4;");
    due.is("8: 99 at 99", x.goes(1), 0);
    rollAndTake(x, 0, 3);
    due.is("8: 99 at 99, stiff by 3", x.goes(1), -9);
    due.is("8: 102 at 99, stiff by 3", x.rolls(2), 0);
    due.is("8: 102 at 99, stiff by 4", x.rolls(0), -9);
    due.is("5: let fall", x.scale(0, 3), 4);
  }

  private static void fullTrays() {
    for (int room = 1; room <= 9; room++) {
      EggScales x = Due.barn("s50 0 " + room + ";s50 0 9;e60 0;e60 0;e60 0;e60 0;e60 0;e60 0;");
      for (int e = 0; e < 6; e++) {
        due.is("8: egg " + e + ", room for " + room, x.rolls(e), e < room ? 0 : 1);
      }
      due.is("5: let fall, room for " + room, x.scale(0, 3), Math.min(6, room));
      due.is("5: in the tray, room for " + room, Integer.bitCount(x.scale(0, 5)), Math.min(6, room));
    }
    EggScales one = Due.barn("s50 0 1;e60 0;e60 0;");
    one.rolls(0);
    due.is("8: full", one.goes(1), -9);
    one.takes(0);
    due.is("9: taken back, not full", one.goes(1), 0);
    one.undo();
    due.is("14: undone, full again", one.goes(1), -9);
    one.drops(0);
    due.is("13: dropped, not full", one.goes(1), 0);
    one.undo();
    one.wipes(0);
    due.is("10: wiped, full still", one.goes(1), -9);
    due.is("8: past the full one", one.rolls(1), -9);
    due.is("5: it did not let fall", one.scale(0, 3), 0);
  }

  private static void fullTrayByEggsNotByFalls() {
    EggScales x = Due.barn("s50 0 1;e60 0;");
    rollAndTake(x, 0, 20);
    due.is("8: an empty tray that 20 fell into", x.rolls(0), 0);
    due.is("5: let fall", x.scale(0, 3), 21);
  }

  /** No 512 calls lead to 999 falls: more calls are made here, for the sentence's sake. */
  private static void fallsAtMost999() {
    EggScales x = Due.barn("s1 0 1;s1 0 1;e50 0;e50 0;");
    rollAndTake(x, 0, 998);
    due.is("8: let fall 998 times", x.scale(0, 3), 998);
    rollAndTake(x, 0, 1);
    due.is("8: let fall 999 times", x.scale(0, 3), 999);
    due.is("8: it falls still", x.rolls(0), 0);
    due.is("8: 999 at most", x.scale(0, 3), 999);
    due.is("8: the next scale", x.rolls(1), 1);
    due.is("7: all together", x.now(3), 1000);
    due.is("10: wiped", x.wipes(0), 999);
    due.is("10: never let fall", x.scale(0, 3), 0);
  }

  private static void crackedLeaksToOneAtLeast() {
    int[] weights = {1, 2, 3, 5, 6, 7, 94, 98};
    int[] behindFive = {1, 1, 1, 1, 1, 2, 89, 93};
    for (int i = 0; i < weights.length; i++) {
      EggScales x = barnOf(weights[i] + " 3", 99, 99, 99, 99, 99);
      due.is("8: a cracked one of " + weights[i], x.rolls(0), -9);
      due.is("8: its weight then", x.egg(0, 0), behindFive[i]);
      due.is("8: what it seems then", x.egg(0, 3), behindFive[i]);
    }
    EggScales one = barnOf("1 3", 99, 1);
    due.is("8: 1 gram stays and tips the second", one.rolls(0), 1);
    due.is("8: its weight then", one.egg(0, 0), 1);
    EggScales two = barnOf("2 3", 99, 99, 2);
    due.is("8: 2 grams become 1, too light for the third", two.rolls(0), -9);
  }

  private static void crackedLeaksAheadOfTheNext() {
    due.is("8: 50 and then 49 at 50", barnOf("50 3", 60, 50).rolls(0), -9);
    due.is("8: 50 and then 49 at 49", barnOf("50 3", 60, 49).rolls(0), 1);
    due.is("8: 50, 49, 48 at 49", barnOf("50 3", 60, 50, 49).rolls(0), -9);
    due.is("8: 50, 49, 48 at 48", barnOf("50 3", 60, 50, 48).rolls(0), 2);
    EggScales first = barnOf("50 3", 50);
    first.rolls(0);
    due.is("8: none is rolled past, nothing leaks", first.egg(0, 0), 50);
    EggScales second = barnOf("50 3", 60, 40);
    second.rolls(0);
    due.is("8: one is rolled past", second.egg(0, 0), 49);
    second.takes(0);
    due.is("9: taken back, as light as it was", second.egg(0, 0), 49);
    second.rolls(0);
    due.is("8: rolled again, lighter again", second.egg(0, 0), 48);
    for (int kind : new int[] {0, 1, 2, 4, 5}) {
      EggScales x = barnOf("50 " + kind, 99, 99, 99, 99, 99);
      x.rolls(0);
      due.is("8: kind " + kind + " does not leak", x.egg(0, 0), 50);
    }
  }

  private static void crackedLeaksAtFullTrays() {
    EggScales x = Due.barn("s40 0 1;s50 0 1;s49 0 1;e40 0;e50 3;");
    x.rolls(0);
    due.is("8: past a full tray it is 1 lighter", x.rolls(1), -9);
    due.is("8: 50, 49, 48, 47", x.egg(1, 0), 47);
    EggScales y = Due.barn("s40 0 1;s49 0 1;e40 0;e50 3;");
    y.rolls(0);
    due.is("8: heavy enough behind the full one", y.rolls(1), 1);
    due.is("8: its weight", y.egg(1, 0), 49);
  }

  /** Five scales with room for one each, six eggs: each place has one. */
  private static EggScales spread() {
    EggScales x = Due.barn("s50 0 1;".repeat(5) + "e60 0;".repeat(6));
    for (int e = 0; e < 6; e++) {
      x.rolls(e);
    }
    return x;
  }

  private static void takenFromEachPlace() {
    EggScales x = spread();
    for (int e = 0; e < 6; e++) {
      due.is("6: egg " + e + " is in its own place", x.egg(e, 2), e < 5 ? e + 1 : 8);
    }
    for (int e = 0; e < 6; e++) {
      due.is("9: takes(" + e + ")", x.takes(e), e + 1);
      due.is("9: takes(" + e + ") again: it is in the nest", x.takes(e), -2);
      due.is("9: it is in the nest", x.egg(e, 2), 0);
    }
    x.drops(0);
    due.is("9: nowhere", x.takes(0), -2);
    due.is("9: it stays nowhere", x.egg(0, 2), 9);
  }

  private static void wipedOnce() {
    EggScales x = Due.barn("s50 1 9;s40 1 9;e60 0;");
    due.is("10: never", x.wipes(0), -2);
    x.rolls(0);
    due.is("10: another one never", x.wipes(1), -2);
    due.is("10: once", x.wipes(0), 1);
    due.is("10: never then", x.wipes(0), -2);
    x.undo();
    due.is("10: undone, once again", x.wipes(0), 1);
    due.is("10: the egg is in its tray still", x.scale(0, 5), 1);
  }

  private static void setBetween1And99() {
    EggScales x = Due.barn("s50 0 9;e1 0;e99 0;");
    due.is("11: 0", x.sets(0, 0), -1);
    due.is("11: 100", x.sets(0, 100), -1);
    due.is("11: as it is", x.sets(0, 50), -2);
    due.is("11: the mark stays", x.scale(0, 0), 50);
    due.is("11: 1", x.sets(0, 1), 50);
    due.is("11: 1 again", x.sets(0, 1), -2);
    due.is("11: the lightest falls", x.goes(0), 0);
    due.is("11: 99", x.sets(0, 99), 1);
    due.is("11: 99 again", x.sets(0, 99), -2);
    due.is("11: the heaviest falls", x.goes(1), 0);
    due.is("11: the lightest does not", x.goes(0), -9);
    due.is("11: as told", x.sets(0, 50), 99);
    due.is("7: three may be undone", x.now(4), 3);
  }

  private static void shiftedToTheLastPlace() {
    EggScales x = Due.barn("s50 0 1;".repeat(5));
    due.is("12: the last one", x.shifts(4), -2);
    for (int place = 1; place < 5; place++) {
      due.is("12: to place " + place, x.shifts(0), place);
      due.is("5: its place", x.scale(0, 4), place);
      due.is("5: the one it changed with", x.scale(place, 4), place - 1);
    }
    due.is("12: it is the last one now", x.shifts(0), -2);
    due.is("12: 4 is not any more", x.shifts(4), 4);
    due.is("12: 0 is not any more", x.shifts(0), 4);
    due.is("12: one scale alone", Due.barn("s50 0 1;").shifts(0), -2);
    due.is("12: no scale", new EggScales().shifts(0), -1);
  }

  private static void droppedFromEachPlace() {
    EggScales x = spread();
    x.takes(0);
    int[] was = {0, 2, 3, 4, 5, 8};
    for (int e = 0; e < 6; e++) {
      due.is("13: drops(" + e + ")", x.drops(e), was[e]);
      due.is("13: it is nowhere", x.egg(e, 2), 9);
      due.is("13: drops(" + e + ") again", x.drops(e), -2);
      due.is("8: rolls(" + e + ")", x.rolls(e), -2);
      due.is("15: goes(" + e + ")", x.goes(e), -2);
    }
    due.is("13: none in the nest", x.now(0), 0);
    due.is("13: none in the basket", x.now(1), 0);
    for (int s = 0; s < 5; s++) {
      due.is("13: none in tray " + s, x.scale(s, 5), 0);
    }
    EggScales first = spread();
    due.is("13: of the first tray", first.drops(0), 1);
  }

  /** Sets the marks from 1 more up to the one told, each by a call. */
  private static void setUpTo(EggScales x, int from, int to) {
    for (int mark = from; mark <= to; mark++) {
      x.sets(0, mark);
    }
  }

  private static void undoneTenAtMost() {
    for (int done = 0; done <= 12; done++) {
      EggScales x = Due.barn("s1 0 1;");
      setUpTo(x, 2, done + 1);
      int known = Math.min(10, done);
      due.is("7: known of " + done, x.now(4), known);
      for (int more = known - 1; more >= 0; more--) {
        due.is("14: one of " + done + " is undone", x.undo(), more);
        due.is("7: so many may be undone", x.now(4), more);
        due.is("14: the mark till then", x.scale(0, 0), done - known + 1 + more);
      }
      due.is("14: none of " + done, x.undo(), -2);
      due.is("14: none again", x.undo(), -2);
      due.is("14: the mark stays", x.scale(0, 0), done - known + 1);
    }
  }

  private static void undoneRoundTheRing() {
    EggScales x = Due.barn("s1 0 1;");
    setUpTo(x, 2, 8);
    for (int i = 0; i < 4; i++) {
      x.undo();
    }
    due.is("14: 3 left", x.now(4), 3);
    setUpTo(x, 51, 58);
    due.is("14: 3 and 8 are 10 at most", x.now(4), 10);
    int[] marks = {57, 56, 55, 54, 53, 52, 51, 4, 3, 2};
    for (int i = 0; i < 10; i++) {
      due.is("14: back " + i, x.undo(), 9 - i);
      due.is("14: mark back " + i, x.scale(0, 0), marks[i]);
    }
    due.is("14: the first one is lost", x.undo(), -2);
  }

  private static final int SORTS = 6;

  private static int does(EggScales x, int sort) {
    switch (sort) {
      case 0: return x.rolls(1);
      case 1: return x.takes(0);
      case 2: return x.wipes(0);
      case 3: return x.sets(0, 77);
      case 4: return x.shifts(0);
      default: return x.drops(0);
    }
  }

  /** Ten are known, whatever the eleventh is: the oldest one is lost, and the eleventh is undone first. */
  private static void undoneTheEleventhOfEachSort() {
    for (int sort = 0; sort < SORTS; sort++) {
      EggScales x = Due.barn("s50 0 9;s40 0 9;e60 0;e60 0;");
      x.rolls(0);
      for (int mark = 41; mark <= 49; mark++) {
        x.sets(1, mark);
      }
      due.is("14: ten are known", x.now(4), 10);
      due.isTrue("14: sort " + sort + " is not refused", does(x, sort) >= 0);
      due.is("14: ten are known behind sort " + sort, x.now(4), 10);
      due.is("14: sort " + sort + " is undone", x.undo(), 9);
      due.is("14: falls", x.scale(0, 3), 1);
      due.is("14: mark", x.scale(0, 0), 50);
      due.is("14: place", x.scale(0, 4), 0);
      due.is("14: egg 0", x.egg(0, 2), 1);
      due.is("14: egg 1", x.egg(1, 2), 0);
      for (int more = 8; more >= 0; more--) {
        due.is("14: more", x.undo(), more);
      }
      due.is("14: the roll is lost", x.undo(), -2);
      due.is("14: egg 0 stays in its tray", x.egg(0, 2), 1);
      due.is("14: mark 1", x.scale(1, 0), 40);
    }
  }

  private static void lastIsAsTold(String what, EggScales x) {
    due.is(what + ", mark of the last", x.scale(4, 0), 40);
    due.is(what + ", falls of the last", x.scale(4, 3), 0);
    for (int s = 0; s < 5; s++) {
      due.is(what + ", place of " + s, x.scale(s, 4), s);
    }
    due.is(what + ", weight of the last", x.egg(5, 0), 50);
    due.is(what + ", all in the nest", x.now(0), 63);
    due.is(what + ", where the last goes", x.goes(5), 4);
  }

  /** Five scales, six eggs: the last scale and the last egg are undone and brought back like any other. */
  private static void undoneAtTheLast() {
    EggScales x = Due.barn("s99 0 9;".repeat(4) + "s40 0 9;" + "e9 0;".repeat(5) + "e50 3;");
    x.keep(1);
    due.is("8: the last egg from the last scale", x.rolls(5), 4);
    due.is("6: 4 lighter", x.egg(5, 0), 46);
    x.sets(4, 77);
    due.is("12: to the last place", x.shifts(3), 4);
    due.is("5: the last is not the last any more", x.scale(4, 4), 3);
    x.keep(0);
    for (int more = 2; more >= 0; more--) {
      due.is("14: undone", x.undo(), more);
    }
    lastIsAsTold("14: undone", x);
    x.back(0);
    due.is("28: mark of the last", x.scale(4, 0), 77);
    due.is("28: falls of the last", x.scale(4, 3), 1);
    due.is("28: place of the last", x.scale(4, 4), 3);
    due.is("28: place of the one ahead", x.scale(3, 4), 4);
    due.is("28: weight of the last", x.egg(5, 0), 46);
    due.is("28: where the last is", x.egg(5, 2), 5);
    x.back(1);
    lastIsAsTold("28: brought back", x);
  }
}
