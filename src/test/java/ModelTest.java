/** Promises 1 to 30 together: long runs of calls, each answered by the class and by the model. */
public final class ModelTest {
  private static final int RUNS = 400;
  private static final int CALLS = 512;
  private static final int[] WILD = {-1, 6, 7, 100, -9, -10, 600, 601, Integer.MAX_VALUE, Integer.MIN_VALUE};

  private final Due due;
  private final int run;
  private final EggScales x = new EggScales();
  private final Model m = new Model();
  private long seed;
  private int calls = 0;

  private ModelTest(Due due, int run) {
    this.due = due;
    this.run = run;
    this.seed = run * 7919L + 17;
  }

  public static void main(String[] args) {
    Due due = new Due();
    for (int run = 0; run < RUNS; run++) {
      new ModelTest(due, run).go();
    }
    due.end();
  }

  /** The same numbers in each run of the test. */
  private int pick(int bound) {
    seed = seed * 6364136223846793005L + 1442695040888963407L;
    return (int) ((seed >>> 33) % bound);
  }

  private boolean once(int in) {
    return pick(in) == 0;
  }

  private void go() {
    tell(once(6));
    while (calls < CALLS) {
      if (once(150)) {
        tell(once(2));
      }
      call();
    }
  }

  private void is(String call, long got, long want) {
    calls++;
    due.is("run " + run + ", call " + calls + ": " + call, got, want);
  }

  private void tell(boolean spoilt) {
    StringBuilder text = new StringBuilder();
    int scales = pick(6);
    int eggs = pick(7);
    int middle = 20 + pick(60);
    while (scales + eggs > 0) {
      if (pick(scales + eggs) < scales) {
        scales--;
        text.append("s" + near(middle) + " " + pick(once(2) ? 10 : 3) + " " + (1 + pick(once(3) ? 9 : 2)) + ";");
      } else {
        eggs--;
        text.append("e" + near(middle) + " " + (once(3) ? 3 : pick(6)) + ";");
      }
    }
    if (spoilt && text.length() > 0) {
      spoil(text);
    }
    for (int i = 0; i < text.length(); i++) {
      int letter = text.charAt(i);
      is("type(" + letter + ")", x.type(letter), m.type(letter));
    }
    is("barn() of " + m.text, x.barn(), m.barn());
    if (m.text.length() > 0) {
      is("clear()", x.clear(), m.clear());
    }
  }

  private int near(int middle) {
    int far = once(5) ? 60 : 6;
    return Math.max(1, Math.min(99, middle + pick(2 * far + 1) - far));
  }

  private void spoil(StringBuilder text) {
    String letters = "se; 01935x";
    for (int i = pick(2); i >= 0 && text.length() > 0; i--) {
      int at = pick(text.length());
      char letter = letters.charAt(pick(letters.length()));
      switch (pick(4)) {
        case 0: text.setCharAt(at, letter); break;
        case 1: text.insert(at, letter); break;
        case 2: text.deleteCharAt(at); break;
        default: text.setLength(at); break;
      }
    }
  }

  /** A number below the bound most of the time, now and then one that no call takes. */
  private int near0(int bound) {
    return once(25) ? WILD[pick(WILD.length)] : pick(bound);
  }

  private void call() {
    int which = pick(100);
    if (which < 45) {
      act();
    } else if (which < 70) {
      look();
    } else if (which < 85) {
      ask();
    } else if (which < 93) {
      test();
    } else {
      other();
    }
  }

  private void act() {
    int e = near0(6);
    int s = near0(5);
    int mark = near0(100);
    switch (pick(10)) {
      case 0: is("takes(" + e + ")", x.takes(e), m.takes(e)); break;
      case 1: is("takes(" + e + ")", x.takes(e), m.takes(e)); break;
      case 2: is("wipes(" + s + ")", x.wipes(s), m.wipes(s)); break;
      case 3: is("sets(" + s + ", " + mark + ")", x.sets(s, mark), m.sets(s, mark)); break;
      case 4: is("shifts(" + s + ")", x.shifts(s), m.shifts(s)); break;
      case 5:
        if (once(3)) {
          is("drops(" + e + ")", x.drops(e), m.drops(e));
        } else {
          is("undo()", x.undo(), m.undo());
        }
        break;
      default: is("rolls(" + e + ")", x.rolls(e), m.rolls(e)); break;
    }
  }

  private void look() {
    int e = near0(6);
    int s = near0(5);
    int what = near0(6);
    switch (pick(5)) {
      case 0: is("scale(" + s + ", " + what + ")", x.scale(s, what), m.scale(s, what)); break;
      case 1: is("egg(" + e + ", " + what + ")", x.egg(e, what), m.egg(e, what)); break;
      case 2: is("now(" + what + ")", x.now(what), m.now(what)); break;
      case 3: is("count(" + what + ")", x.count(what), m.count(what)); break;
      default: is("goes(" + e + ")", x.goes(e), m.goes(e)); break;
    }
  }

  private void ask() {
    int k = near0(7) - 1;
    int e = near0(6);
    int s = near0(5);
    int n = near0(6) + 1;
    int grams = near0(n > 0 && n < 7 ? 80 * n : 600);
    int tenths = near0(11);
    int what = near0(2);
    switch (pick(8)) {
      case 0: is("order(" + k + ")", x.order(k), m.order(k)); break;
      case 1: is("row(" + k + ")", x.row(k), m.row(k)); break;
      case 2:
      case 3: is("reset(" + e + ", " + s + ")", x.reset(e, s), m.reset(e, s)); break;
      case 4: is("cracks(" + tenths + ", " + e + ", " + what + ")", x.cracks(tenths, e, what), m.cracks(tenths, e, what)); break;
      case 5:
      case 6: is("box(" + n + ", " + grams + ", " + what + ")", x.box(n, grams, what), m.box(n, grams, what)); break;
      default: is("boxes(" + n + ", " + grams + ")", x.boxes(n, grams), m.boxes(n, grams)); break;
    }
  }

  private void test() {
    int what = near0(3);
    switch (pick(6)) {
      case 0:
        if (once(3)) {
          is("forget()", x.forget(), m.forget());
        }
        break;
      case 1:
      case 2: {
        // what one scale off would answer, so that tests agree with one another for a while
        int g = once(20) ? near0(100) : m.w.scales.isEmpty() ? 5 : m.w.scales.get(0).told + pick(25) - 12;
        int s = once(4) ? near0(6) - 1 : once(2) ? 0 : once(2) ? -9 : 1;
        is("tested(" + g + ", " + s + ")", x.tested(g, s), m.tested(g, s));
        break;
      }
      case 3: is("next()", x.next(), m.next()); break;
      default: is("can(" + what + ")", x.can(what), m.can(what)); break;
    }
  }

  private void other() {
    int image = near0(2);
    int kind = near0(6);
    int e = near0(6);
    switch (pick(8)) {
      case 0: is("keep(" + image + ")", x.keep(image), m.keep(image)); break;
      case 1: is("back(" + image + ")", x.back(image), m.back(image)); break;
      case 2: is("trace()", x.trace(), m.trace()); break;
      default: is("rate(" + kind + ", " + e + ")", x.rate(kind, e), m.rate(kind, e)); break;
    }
  }
}
