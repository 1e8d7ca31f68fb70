/** Terms and promises 2 to 4: each sentence on THE TEXT that names an edge. */
public final class TextEdgeTest {
  private static final Due due = new Due();
  private static final String FIVE_SCALES = "s1 0 1;".repeat(5);
  private static final String SIX_EGGS = "e1 0;".repeat(6);

  public static void main(String[] args) {
    lettersBetween0And255();
    lettersAtMost120();
    textsOf120Letters();
    clearOfEmptyAndFull();
    scalesAtMost5();
    eggsAtMost6();
    numbersWithinTheirBounds();
    numbersThatWrapAround();
    blanksBetweenTokens();
    otherLetters();
    otherLettersWithin();
    tokensThatCantStand();
    endsTooEarly();
    firstFaultCounts();
    emptyText();
    textBehindFault();
    placesAtFirst();
    lastScaleLastEgg();
    nothingTestedWhenReadAnew();
    due.end();
  }

  private static void reads(String text, int items) {
    due.is("4: items of \"" + text + "\"", Due.told(text), items);
  }

  private static void fault(String text, int place) {
    due.is("4: fault of \"" + text + "\"", Due.told(text), -10 - place);
  }

  private static String padded(String text, int length) {
    return text + " ".repeat(length - text.length());
  }

  private static void lettersBetween0And255() {
    for (int letter : new int[] {0, 1, 31, 32, 33, 127, 128, 254, 255}) {
      EggScales x = new EggScales();
      due.is("2: type(" + letter + ")", x.type(letter), 1);
      due.is("2: letters behind type(" + letter + ")", x.count(3), 1);
    }
    for (int letter : new int[] {-1, 256, -256, 288, 65568, Integer.MIN_VALUE, Integer.MAX_VALUE}) {
      EggScales x = new EggScales();
      due.is("2: type(" + letter + ")", x.type(letter), -1);
      due.is("2: letters behind type(" + letter + ")", x.count(3), 0);
    }
  }

  private static void lettersAtMost120() {
    EggScales x = new EggScales();
    for (int i = 1; i <= 119; i++) {
      x.type(32);
    }
    due.is("2: the 120th letter", x.type(32), 120);
    due.is("2: the 121st", x.type(32), -3);
    due.is("2: the 121st again", x.type('e'), -3);
    due.is("2: BAD is ahead of FULL, below", x.type(-1), -1);
    due.is("2: BAD is ahead of FULL, above", x.type(256), -1);
    due.is("2: letters behind what was refused", x.count(3), 120);
    due.is("4: what was refused is not read", x.barn(), 0);
  }

  private static void textsOf120Letters() {
    String most = "s99 9 9;".repeat(5) + "e99 5;".repeat(6);
    reads(padded(most, 120), 11);
    reads(" ".repeat(120 - most.length()) + most, 11);
    fault(" ".repeat(119) + "x", 119);
    fault(" ".repeat(119) + "e", 120);
    fault(padded("e1 0", 120), 120);
    fault(padded("e1 0", 119) + "0", 119);
    reads(padded("e1 0", 119) + ";", 1);
    fault("s" + "1".repeat(119), 1);
    fault("s" + "0".repeat(119), 1);
  }

  private static void clearOfEmptyAndFull() {
    EggScales x = new EggScales();
    due.is("3: clear() of an empty text", x.clear(), 0);
    Due.type(x, " ".repeat(120));
    due.is("3: clear() of a full one", x.clear(), 120);
    due.is("3: letters then", x.count(3), 0);
    due.is("3: clear() again", x.clear(), 0);
    due.is("2: there is room again", x.type('e'), 1);
    due.is("4: what was cleared is not read", x.barn(), -11);
    due.is("3: clear() of one letter", x.clear(), 1);
    due.is("4: nothing is told", x.barn(), 0);
  }

  private static void scalesAtMost5() {
    for (int n = 0; n <= 5; n++) {
      EggScales x = Due.barn("s1 0 1;".repeat(n));
      due.is("4: " + n + " scales", x.count(0), n);
      due.is("5: scale " + n + " of " + n, x.scale(n, 0), -1);
      due.is("5: the last of " + n, x.scale(n - 1, 0), n == 0 ? -1 : 1);
    }
    fault(FIVE_SCALES + "s1 0 1;", 35);
    fault(FIVE_SCALES + "s", 35);
    fault(FIVE_SCALES + "  s1 0 1;", 37);
    fault(FIVE_SCALES + SIX_EGGS + "s1 0 1;", 65);
    reads(FIVE_SCALES + SIX_EGGS, 11);
  }

  private static void eggsAtMost6() {
    for (int n = 0; n <= 6; n++) {
      EggScales x = Due.barn("e1 0;".repeat(n));
      due.is("4: " + n + " eggs", x.count(1), n);
      due.is("6: egg " + n + " of " + n, x.egg(n, 0), -1);
      due.is("6: the last of " + n, x.egg(n - 1, 0), n == 0 ? -1 : 1);
    }
    fault(SIX_EGGS + "e1 0;", 30);
    fault(SIX_EGGS + "e", 30);
    fault(SIX_EGGS + "  e1 0;", 32);
    fault(SIX_EGGS + FIVE_SCALES + "e1 0;", 65);
    reads(SIX_EGGS + FIVE_SCALES, 11);
  }

  private interface Field {
    int of(EggScales x);
  }

  private static void numbersWithinTheirBounds() {
    span("MARK", "s", " 0 1;", 1, 99, x -> x.scale(0, 0));
    span("STICKS", "s1 ", " 1;", 0, 9, x -> x.scale(0, 1));
    span("ROOM", "s1 0 ", ";", 1, 9, x -> x.scale(0, 2));
    span("WEIGHT", "e", " 0;", 1, 99, x -> x.egg(0, 0));
    span("KIND", "e1 ", ";", 0, 5, x -> x.egg(0, 1));
  }

  private static void span(String name, String ahead, String behind, int least, int most, Field field) {
    int place = ahead.length();
    for (int n = 0; n <= 120; n++) {
      String text = ahead + n + behind;
      if (n >= least && n <= most) {
        due.is(name + " as told by " + text, field.of(Due.barn(text)), n);
      } else {
        fault(text, place);
      }
      fault(ahead + "0" + n + behind, place);
    }
    fault(ahead + "-1" + behind, place);
    fault(ahead + "+1" + behind, place);
    fault(ahead + "00" + behind, place);
    fault(ahead + "000" + behind, place);
  }

  /** By numbers that would be small again, if they were held in 32 or 64 bits. */
  private static void numbersThatWrapAround() {
    for (String n : new String[] {"999", "1000", "2147483648", "4294967296", "4294967297", "18446744073709551617"}) {
      fault("s" + n + " 0 1;", 1);
      fault("s1 " + n + " 1;", 3);
      fault("s1 0 " + n + ";", 5);
      fault("e" + n + " 0;", 1);
      fault("e1 " + n + ";", 3);
    }
  }

  private static void blanksBetweenTokens() {
    reads("s1 0 1;e1 0;", 2);
    reads("   s   1   0   1   ;   e   1   0   ;   ", 2);
    reads("s 1 0 1 ; e 1 0 ;", 2);
    // a blank parts a number; without one two become one
    fault("s1 0 1 0;", 7);
    fault("s10 1;", 5);
    fault("s1 01;", 3);
    fault("s9 99;", 3);
    fault("e15;", 3);
    fault("e1 5 ", 5);
    EggScales x = Due.barn("e1  5;");
    due.is("4: weight ahead of two blanks", x.egg(0, 0), 1);
    due.is("4: kind behind two blanks", x.egg(0, 1), 5);
  }

  /** At an item's start: s and e stand, a blank is none, all else is a fault there. */
  private static void otherLetters() {
    for (int letter = 0; letter < 256; letter++) {
      int place = letter == 's' || letter == 'e' ? 6 : 5;
      int due5 = letter == 32 ? 1 : -10 - place;
      due.is("4: letter " + letter + " behind an item", Due.told("e1 0;" + (char) letter), due5);
    }
  }

  /** Where a number is due: a digit of 1 to 9 stands; a blank moves the place on. */
  private static void otherLettersWithin() {
    for (int letter = 0; letter < 256; letter++) {
      boolean stands = letter >= '1' && letter <= '9';
      int place = letter == 32 ? 3 : 1;
      due.is("4: letter " + letter + " for a weight", Due.told("e" + (char) letter + " 0;"), stands ? 1 : -10 - place);
    }
  }

  private static void tokensThatCantStand() {
    String[] ahead = {"", "s", "s1", "s1 0", "s1 0 1", "s1 0 1;", "e", "e1", "e1 0", "e1 0;"};
    String[] stand = {"se", "1", "1", "1", ";", "se", "1", "1", ";", "se"};
    for (int i = 0; i < ahead.length; i++) {
      for (String token : new String[] {"s", "e", "1", ";"}) {
        String text = ahead[i] + " " + token;
        if (!stand[i].contains(token)) {
          fault(text, text.length() - 1);
          fault(text + " 0 1;", text.length() - 1);
        } else if (token.equals(";")) {
          reads(text, 1);
        } else {
          fault(text, text.length());
        }
      }
    }
  }

  private static void endsTooEarly() {
    String whole = "s12 3 4;e56 5;";
    for (int length = 0; length <= whole.length(); length++) {
      for (int blanks = 0; blanks < 3; blanks++) {
        String text = whole.substring(0, length) + " ".repeat(blanks);
        if (length == 0 || length == 8 || length == 14) {
          reads(text, length == 0 ? 0 : length == 8 ? 1 : 2);
        } else {
          fault(text, text.length());
        }
      }
    }
  }

  private static void firstFaultCounts() {
    fault("e0 6;", 1);
    fault("e1 6;x", 3);
    fault("s1 0 0;s0 0 1;", 5);
    fault("x e1 0", 0);
    fault("e1 0;;s100", 5);
    fault("e100 x", 1);
    fault("e1 x 100", 3);
    fault("e01 100;", 1);
    fault(SIX_EGGS + "e0 9;", 30);
  }

  private static void emptyText() {
    reads("", 0);
    reads(" ", 0);
    EggScales x = Due.barn("s50 0 1;e60 0;");
    x.rolls(0);
    due.is("4: an empty text tells all anew", x.barn(), 0);
    due.is("4: no scales then", x.count(0), 0);
    due.is("4: no eggs then", x.count(1), 0);
    due.is("4: no egg in the nest", x.now(0), 0);
    due.is("4: nothing fell", x.now(3), 0);
    due.is("4: nothing to undo", x.undo(), -2);
    due.is("4: scale 0 is gone", x.scale(0, 0), -1);
    due.is("4: egg 0 is gone", x.egg(0, 0), -1);
  }

  private static void textBehindFault() {
    EggScales x = new EggScales();
    Due.type(x, "e7 3");
    due.is("4: it ends too early", x.barn(), -14);
    due.is("4: the text is there still", x.count(3), 4);
    due.is("4: the same fault again", x.barn(), -14);
    due.is("2: one letter more", x.type(';'), 5);
    due.is("4: it is whole now", x.barn(), 1);
    due.is("4: the weight", x.egg(0, 0), 7);
    due.is("4: the text is empty then", x.count(3), 0);
    due.is("3: nothing to clear", x.clear(), 0);
  }

  private static void placesAtFirst() {
    EggScales x = Due.barn("s5 0 1;e9 0;s4 0 1;s3 0 1;e8 0;s2 0 1;s1 0 1;");
    for (int s = 0; s < 5; s++) {
      due.is("5: scale " + s + " is the one told so", x.scale(s, 0), 5 - s);
      due.is("5: its place", x.scale(s, 4), s);
    }
    due.is("6: egg 0", x.egg(0, 0), 9);
    due.is("6: egg 1", x.egg(1, 0), 8);
  }

  private static void lastScaleLastEgg() {
    EggScales x = Due.barn(FIVE_SCALES.substring(7) + "s97 8 7;" + SIX_EGGS.substring(5) + "e96 5;");
    due.is("5: mark of the last", x.scale(4, 0), 97);
    due.is("5: sticks of the last", x.scale(4, 1), 8);
    due.is("5: room of the last", x.scale(4, 2), 7);
    due.is("6: weight of the last", x.egg(5, 0), 96);
    due.is("6: kind of the last", x.egg(5, 1), 5);
  }

  private static void nothingTestedWhenReadAnew() {
    EggScales x = Due.barn("s50 0 1;");
    for (int i = 0; i < 6; i++) {
      x.tested(58, -9);
    }
    due.is("24: one way", x.can(0), 1);
    Due.type(x, "s50 0 1;");
    due.is("4: read anew", x.barn(), 1);
    due.is("29: nothing is tested", x.count(2), 0);
    due.is("24: all ways", x.can(0), 19);
    due.is("22: there is room", x.tested(58, -9), 1);
  }
}
