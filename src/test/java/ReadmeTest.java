import java.io.IOException;
import java.lang.reflect.Method;
import java.nio.file.Files;
import java.nio.file.Path;
import java.util.ArrayList;
import java.util.List;
import java.util.Set;
import java.util.TreeSet;
import java.util.regex.Matcher;
import java.util.regex.Pattern;
import java.util.stream.Stream;

/** README.md: each call of its example answers as is written beside it; its command runs each test. */
public final class ReadmeTest {
  private static final Due due = new Due();
  private static final Path README = Path.of("README.md"), COMMAND = Path.of(".ci/run"), TESTS = Path.of("src/test/java");
  private static final Pattern TEXT = Pattern.compile("String text = \"([^\"\\\\]*)\";");
  private static final Pattern CALL = Pattern.compile("x\\.(\\w+)\\((.*)\\); +// (-?\\d+|[A-Z]+): \\S.*");
  /** What the example does besides calls with answers, to the letter. */
  private static final Set<String> TYPING = Set.of("EggScales x = new EggScales();",
      "for (int i = 0; i < text.length(); i++) {", "  x.type(text.charAt(i));", "}");

  public static void main(String[] args) throws Exception {
    String readme = Files.readString(README);
    example(blocks(readme, "java"));
    command(blocks(readme, "sh"), readme);
    due.end();
  }

  /** The lines of all blocks of a language, one behind another. */
  private static List<String> blocks(String readme, String language) {
    List<String> lines = new ArrayList<>();
    Matcher m = Pattern.compile("(?s)```" + language + "\n(.*?)```\n").matcher(readme);
    while (m.find()) {
      lines.addAll(m.group(1).lines().toList());
    }
    return lines;
  }

  private static void example(List<String> lines) throws Exception {
    EggScales x = new EggScales();
    Set<String> shown = new TreeSet<>(Set.of("type"));
    Set<String> typing = new TreeSet<>();
    for (String line : lines) {
      Matcher text = TEXT.matcher(line);
      Matcher call = CALL.matcher(line);
      if (text.matches()) {
        Due.type(x, text.group(1));
      } else if (call.matches()) {
        shown.add(call.group(1));
        due.is(line, answer(x, call.group(1), call.group(2)), number(call.group(3)));
      } else {
        due.isTrue("one line more of the example, once: " + line, TYPING.contains(line) && typing.add(line));
      }
    }
    due.isTrue("the example is there, with its letters typed", typing.equals(TYPING));
    for (Method m : EggScales.class.getDeclaredMethods()) {
      due.isTrue("the example shows " + m.getName(),
          !java.lang.reflect.Modifier.isPublic(m.getModifiers()) || shown.contains(m.getName()));
    }
  }

  private static long answer(EggScales x, String name, String words) throws Exception {
    String[] numbers = words.isEmpty() ? new String[0] : words.split(", ");
    Class<?>[] types = new Class<?>[numbers.length];
    Object[] values = new Object[numbers.length];
    for (int i = 0; i < numbers.length; i++) {
      types[i] = int.class;
      values[i] = numbers[i].matches("'.'") ? numbers[i].charAt(1) : Integer.parseInt(numbers[i]);
    }
    return ((Number) EggScales.class.getMethod(name, types).invoke(x, values)).longValue();
  }

  private static long number(String word) throws Exception {
    return Character.isUpperCase(word.charAt(0)) ? EggScales.class.getField(word).getInt(null) : Long.parseLong(word);
  }

  /** The command takes what is named *Test: so each file that can be run must be, and be told of. */
  private static void command(List<String> lines, String readme) throws IOException {
    due.isTrue("one command: " + lines, lines.equals(List.of(COMMAND.toString())));
    due.isTrue("it can be run", Files.isExecutable(COMMAND));
    int tests = 0;
    for (Path file : filesOf(TESTS)) {
      String name = file.getFileName().toString().replace(".java", "");
      boolean runs = Files.readString(file).contains("public static void main(");
      due.isTrue(name + ": what can be run is named so", runs == name.endsWith("Test"));
      due.isTrue(name + " is told of", readme.contains("`" + name + "`") || name.equals("Due"));
      tests += runs ? 1 : 0;
    }
    Matcher told = Pattern.compile("`(\\w+Test)`").matcher(readme);
    while (told.find()) {
      due.isTrue(told.group(1) + " is there", Files.exists(TESTS.resolve(told.group(1) + ".java")));
    }
    due.isTrue("tests were found: " + tests, tests > 0);
  }

  private static List<Path> filesOf(Path folder) throws IOException {
    try (Stream<Path> files = Files.walk(folder)) {
      return files.filter(Files::isRegularFile).toList();
    }
  }
}
