/** Gathers answers that are not the ones that are due; a test ends with exit code 1 if there was one. */
final class Due {
  private int wrong = 0;
  private int asked = 0;

  void is(String call, long got, long want) {
    asked++;
    if (got != want) {
      wrong++;
      System.out.println(call + " answered " + got + ", due is " + want);
    }
  }

  void isTrue(String what, boolean holds) {
    is(what, holds ? 1 : 0, 1);
  }

  void end() {
    System.out.println(wrong == 0 ? "all " + asked + " answers are as due" : wrong + " answers are not as due");
    if (wrong != 0) {
      System.exit(1);
    }
  }

  static void type(EggScales x, String text) {
    for (int i = 0; i < text.length(); i++) {
      x.type(text.charAt(i));
    }
  }

  static EggScales barn(String text) {
    EggScales x = new EggScales();
    type(x, text);
    if (x.barn() < 0) {
      throw new IllegalArgumentException("a test's own text has a fault: " + text);
    }
    return x;
  }

  /** What barn() answers to a text on a new object. */
  static int told(String text) {
    EggScales x = new EggScales();
    type(x, text);
    return x.barn();
  }
}
