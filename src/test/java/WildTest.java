import java.lang.reflect.InvocationTargetException;
import java.lang.reflect.Method;
import java.lang.reflect.Modifier;
import java.util.Arrays;
import java.util.Comparator;

/** ../shared/LANGUAGE.md, rules 7 and 13: no call throws, for any numbers in any state; the same calls answer the same. */
public final class WildTest {
  private static final int RUNS = 300, CALLS = 1500;
  private static final int[] NUMBERS = {Integer.MIN_VALUE, Integer.MIN_VALUE + 1, -1000000, -65536, -256, -10, -9, -2, -1, 0,
      0, 1, 1, 2, 2, 3, 3, 4, 4, 5, 5, 6, 7, 8, 9, 10, 31, 32, 33, 49, 50, 51, 63, 64, 98, 99, 100, 120, 121, 255, 256, 599,
      600, 601, 65535, 65536, Integer.MAX_VALUE - 1, Integer.MAX_VALUE};
  private static final String[] TEXTS = {"", "s50 1 1;", "e50 3;", "s50 1 1;s40 0 9;e55 2;e50 3;e1 5;", "e5",
      "s1 1 1;s2 2 2;s3 3 3;s4 4 4;s5 5 5;e9 0;e8 1;e7 2;e6 3;e5 4;e4 5;", "s99 9 9;".repeat(5) + "e99 3;".repeat(6)};
  private static final Due due = new Due();

  private long seed;

  private WildTest(int run) {
    seed = run * 104729L + 5;
  }

  public static void main(String[] args) throws Exception {
    Method[] calls = calls();
    due.is("calls of the face", calls.length, 29);
    for (int run = 0; run < RUNS; run++) {
      long first = new WildTest(run).go(calls);
      due.is("run " + run + " once more", new WildTest(run).go(calls), first);
    }
    due.end();
  }

  /** In an order of their own: that of the machine is not promised. */
  private static Method[] calls() {
    return Arrays.stream(EggScales.class.getDeclaredMethods()).filter(m -> Modifier.isPublic(m.getModifiers()))
        .sorted(Comparator.comparing(Method::getName)).toArray(Method[]::new);
  }

  private int pick(int bound) {
    seed = seed * 6364136223846793005L + 1442695040888963407L;
    return (int) ((seed >>> 33) % bound);
  }

  /** A number made of all answers. */
  private long go(Method[] calls) throws Exception {
    EggScales x = new EggScales();
    long answers = 0;
    for (int i = 0; i < CALLS; i++) {
      Method m = calls[pick(calls.length)];
      if (m.getName().equals("barn") && pick(8) > 0) {
        x.clear();
        Due.type(x, TEXTS[pick(TEXTS.length)]);
      }
      answers = answers * 31 + call(x, m);
    }
    return answers;
  }

  private long call(EggScales x, Method m) throws Exception {
    Object[] numbers = new Object[m.getParameterCount()];
    for (int i = 0; i < numbers.length; i++) {
      numbers[i] = pick(3) == 0 ? NUMBERS[pick(NUMBERS.length)] : pick(6);
    }
    try {
      return ((Number) m.invoke(x, numbers)).longValue();
    } catch (InvocationTargetException thrown) {
      due.isTrue(m.getName() + Arrays.toString(numbers) + " threw " + thrown.getCause(), false);
      return 0;
    }
  }
}
