import java.io.IOException;
import java.lang.reflect.Constructor;
import java.lang.reflect.Field;
import java.lang.reflect.Method;
import java.lang.reflect.Modifier;
import java.nio.charset.StandardCharsets;
import java.nio.file.Files;
import java.nio.file.Path;
import java.util.Arrays;
import java.util.Set;
import java.util.TreeSet;

/** The public face: every name of the document, and no other that can be seen from outside. */
public final class FaceTest {
  private static final String[] METHODS = {
    "int type(int letter)", "int clear()", "int barn()", "int scale(int s, int what)", "int egg(int e, int what)",
    "int now(int what)", "int rolls(int e)", "int takes(int e)", "int wipes(int s)", "int sets(int s, int mark)",
    "int shifts(int s)", "int drops(int e)", "int undo()", "int goes(int e)", "int order(int k)", "int row(int k)",
    "int reset(int e, int s)", "int cracks(int x, int k, int what)", "int box(int n, int w, int what)",
    "int boxes(int n, int w)", "int tested(int g, int s)", "int forget()", "int can(int what)", "int next()",
    "int rate(int kind, int e)", "int keep(int image)", "int back(int image)", "int count(int what)", "long trace()"};
  private static final String[] CONSTANTS = {"BAD=-1", "STATE=-2", "FULL=-3", "NONE=-9", "NO=-1000000"};

  private static final Due due = new Due();

  public static void main(String[] args) throws Exception {
    theClassItself();
    constants();
    Set<String> names = methods();
    namesAreBorneOnce(EggScales.class, names);
    for (Class<?> inside : EggScales.class.getDeclaredClasses()) {
      int has = inside.getModifiers();
      due.isTrue(inside + " is static and not public",
          Modifier.isStatic(has) && !Modifier.isPublic(has) && !Modifier.isProtected(has));
      namesAreBorneOnce(inside, names);
    }
    parametersNames();
    due.end();
  }

  private static void theClassItself() {
    int has = EggScales.class.getModifiers();
    due.isTrue("the class is public and final", Modifier.isFinal(has) && Modifier.isPublic(has));
    due.isTrue("no package", EggScales.class.getPackageName().isEmpty());
    Constructor<?>[] made = EggScales.class.getDeclaredConstructors();
    due.isTrue("one public constructor without parameters", made.length == 1
        && made[0].getParameterCount() == 0 && Modifier.isPublic(made[0].getModifiers()));
  }

  private static void constants() throws IllegalAccessException {
    Set<String> constants = new TreeSet<>();
    for (Field f : EggScales.class.getDeclaredFields()) {
      int has = f.getModifiers();
      if (!Modifier.isPrivate(has)) {
        due.isTrue(f + " is public, static, final, an int", Modifier.isPublic(has) && Modifier.isStatic(has)
            && Modifier.isFinal(has) && f.getType() == int.class);
        constants.add(f.getName() + "=" + f.getInt(null));
      }
    }
    due.isTrue("constants " + constants, constants.equals(setOf(CONSTANTS)));
  }

  /** The names of all that can be seen. */
  private static Set<String> methods() {
    Set<String> methods = new TreeSet<>();
    Set<String> names = new TreeSet<>();
    for (Method m : EggScales.class.getDeclaredMethods()) {
      int has = m.getModifiers();
      if (!Modifier.isPrivate(has)) {
        methods.add(described(m));
        names.add(m.getName());
        due.isTrue(m + " is public, of an object", Modifier.isPublic(has) && !Modifier.isStatic(has));
      }
    }
    due.isTrue("methods " + methods, methods.equals(setOf(withoutNames(METHODS))));
    return names;
  }

  private static void namesAreBorneOnce(Class<?> owner, Set<String> names) {
    for (Method m : owner.getDeclaredMethods()) {
      boolean seen = owner == EggScales.class && Modifier.isPublic(m.getModifiers());
      due.isTrue(m + " bears no name of the face", seen || !names.contains(m.getName()));
    }
  }

  private static void parametersNames() throws IOException {
    String source = Files.readString(Path.of("src/main/java/EggScales.java"), StandardCharsets.ISO_8859_1);
    for (String head : METHODS) {
      due.isTrue(head + " with its parameters' names", source.contains("\n    public " + head + " {\n"));
    }
  }

  private static String described(Method m) {
    StringBuilder text = new StringBuilder(m.getReturnType() + " " + m.getName() + "(");
    for (Class<?> p : m.getParameterTypes()) {
      text.append(text.charAt(text.length() - 1) == '(' ? "" : ",").append(p);
    }
    return text.append(")").toString();
  }

  private static String[] withoutNames(String[] heads) {
    String[] bare = new String[heads.length];
    for (int i = 0; i < heads.length; i++) {
      bare[i] = heads[i].replaceAll("int \\w+(?=[,)])", "int").replace(", ", ",");
    }
    return bare;
  }

  private static Set<String> setOf(String[] names) {
    return new TreeSet<>(Arrays.asList(names));
  }
}
