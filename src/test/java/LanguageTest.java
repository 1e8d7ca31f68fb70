import java.lang.reflect.Field;
import java.lang.reflect.Modifier;
import java.nio.charset.StandardCharsets;
import java.nio.file.Files;
import java.nio.file.Path;
import java.util.Set;
import java.util.regex.Matcher;
import java.util.regex.Pattern;

/** ../shared/LANGUAGE.md: what of its rules the source's words alone can show. FaceTest has rule 1, WildTest rule 7. */
public final class LanguageTest {
  private static final Due due = new Due();
  private static final int MOST_LINES = 60, MOST_PARAMETERS = 7, MOST_CLASSES = 12, MOST_FIELDS = 20;

  public static void main(String[] args) throws Exception {
    String file = Files.readString(Path.of("src/main/java/EggScales.java"), StandardCharsets.ISO_8859_1);
    String code = withoutComments(file);
    noneOf(code, "rule 6", "throw", "throws", "try", "catch", "synchronized", "assert", "equals", "hashCode", "toString");
    noneOf(code, "rule 13", "System.currentTimeMillis", "System.nanoTime", "Random", "Thread", "File");
    due.is("rule 2: lambdas, method references", count(code, "->|::"), 0);
    due.is("rule 4: names that end in Exact", count(code, "\\w+Exact\\b"), 0);
    due.is("rule 10: texts joined by +", count(code, "\"\\s*\\+|\\+\\s*\""), 0);
    due.is("rule 9: loops without a bound", count(code, "while \\(true\\)|for \\(;;\\)"), 0);
    due.isTrue("rule 11: classes", count(code, "\\b(class|record|enum|interface) \\w+") <= MOST_CLASSES);
    imports(code);
    staticFields(code);
    libraryCalls(code);
    methods(code);
    fields(EggScales.class);
    for (Class<?> inside : EggScales.class.getDeclaredClasses()) {
      fields(inside);
    }
    due.end();
  }

  private static String withoutComments(String file) {
    return file.replaceAll("(?s)/\\*.*?\\*/", "").replaceAll("//[^\n]*", "");
  }

  private static int count(String code, String pattern) {
    return (int) Pattern.compile(pattern).matcher(code).results().count();
  }

  private static void noneOf(String code, String rule, String... words) {
    for (String word : words) {
      due.is(rule + ": " + word, count(code, "\\b" + Pattern.quote(word) + "\\b"), 0);
    }
  }

  private static void imports(String code) {
    due.is("without a package line", count(code, "\\bpackage\\b"), 0);
    Matcher m = Pattern.compile("import ([^;]*);").matcher(code);
    while (m.find()) {
      due.isTrue("rule 4: import " + m.group(1),
          Set.of("java.util.Arrays", "java.util.ArrayList", "java.util.List", "java.util.Iterator").contains(m.group(1)));
    }
  }

  /** Rule 5: a static thing is a constant, a class or a method. */
  private static void staticFields(String code) {
    Matcher m = Pattern.compile("\\bstatic\\b([^;{(]*)").matcher(code);
    while (m.find()) {
      String rest = m.group(1).trim();
      boolean isClass = rest.matches("(final |abstract )?(class|record|enum|interface) .*");
      boolean isMethod = code.charAt(m.end()) == '(';
      boolean isConstant = rest.matches("(?s)final (int|long|boolean|char|String)\\b(\\[\\])* .*");
      due.isTrue("rule 5: static " + rest, isClass || isMethod || isConstant);
    }
  }

  /** Rules 3 and 11: few fields, of numbers, of rows of numbers, or of the classes inside. */
  private static void fields(Class<?> owner) {
    int own = 0;
    for (Field f : owner.getDeclaredFields()) {
      Class<?> type = f.getType().isArray() ? f.getType().getComponentType() : f.getType();
      due.isTrue("rule 3: " + f, type.isPrimitive() || type.getEnclosingClass() == EggScales.class);
      own += Modifier.isStatic(f.getModifiers()) ? 0 : 1;
    }
    due.isTrue("rule 11: fields of " + owner.getName() + ": " + own, own <= MOST_FIELDS);
  }

  private static void libraryCalls(String code) {
    Matcher m = Pattern.compile("\\b(Math|Integer|Long|Arrays|System)\\.(\\w+)").matcher(code);
    while (m.find()) {
      due.isTrue("rule 4: " + m.group(), Set.of("Math.max", "Math.min", "Math.abs", "Integer.bitCount", "Arrays.fill",
          "Arrays.copyOf", "Arrays.copyOfRange", "System.arraycopy").contains(m.group()));
    }
  }

  /** Rules 11 and 12: short methods of few parameters, in which nothing is made but by constructors. */
  private static void methods(String code) {
    Matcher m = Pattern.compile("\n( +)((?:\\w+ )*)(\\w+(?:\\[\\])?) (\\w+)\\(([^)]*)\\) \\{\n").matcher("\n" + code);
    int seen = 0;
    while (m.find()) {
      String head = m.group(2) + m.group(3);
      if (head.matches(".*\\b(return|else|new)\\b.*")) {
        continue;
      }
      seen++;
      int end = code.indexOf("\n" + m.group(1) + "}\n", m.end() - 1);
      String body = code.substring(m.end() - 1, end);
      boolean makes = Character.isUpperCase(m.group(4).charAt(0));
      due.isTrue("rule 11: lines of " + m.group(4), count(body, "\n") < MOST_LINES);
      due.isTrue("rule 11: parameters of " + m.group(4), count(m.group(5), ",") < MOST_PARAMETERS);
      due.isTrue("rule 12: made by " + m.group(4), makes || count(body, "\\bnew\\b") == 0);
    }
    due.isTrue("methods were found: " + seen, seen > 60);
  }
}
