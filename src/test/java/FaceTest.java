import java.lang.reflect.Constructor;
import java.lang.reflect.Field;
import java.lang.reflect.Method;
import java.lang.reflect.Modifier;
import java.util.TreeSet;

/** The public face: every name of the document, and no other that can be seen from outside. */
public final class FaceTest {
  private static final String[] METHODS = {
    "int type(int)", "int clear()", "int barn()", "int scale(int,int)", "int egg(int,int)", "int now(int)",
    "int rolls(int)", "int takes(int)", "int wipes(int)", "int sets(int,int)", "int shifts(int)", "int drops(int)",
    "int undo()", "int goes(int)", "int order(int)", "int row(int)", "int reset(int,int)", "int cracks(int,int,int)",
    "int box(int,int,int)", "int boxes(int,int)", "int tested(int,int)", "int forget()", "int can(int)", "int next()",
    "int rate(int,int)", "int keep(int)", "int back(int)", "int count(int)", "long trace()"};
  private static final String[] CONSTANTS = {"BAD=-1", "STATE=-2", "FULL=-3", "NONE=-9", "NO=-1000000"};

  public static void main(String[] args) throws Exception {
    Due due = new Due();
    TreeSet<String> methods = new TreeSet<>();
    TreeSet<String> publicNames = new TreeSet<>();
    for (Method m : EggScales.class.getDeclaredMethods()) {
      if (!Modifier.isPrivate(m.getModifiers())) {
        methods.add(described(m));
        publicNames.add(m.getName());
        due.isTrue(m + " is public", Modifier.isPublic(m.getModifiers()));
      }
    }
    due.isTrue("methods " + methods, methods.equals(setOf(METHODS)));
    for (Method m : EggScales.class.getDeclaredMethods()) {
      due.isTrue(m + " bears its name alone",
          !Modifier.isPrivate(m.getModifiers()) || !publicNames.contains(m.getName()));
    }
    TreeSet<String> constants = new TreeSet<>();
    for (Field f : EggScales.class.getDeclaredFields()) {
      if (!Modifier.isPrivate(f.getModifiers())) {
        constants.add(f.getName() + "=" + f.getInt(null));
        due.isTrue(f + " is final", Modifier.isFinal(f.getModifiers()) && Modifier.isPublic(f.getModifiers()));
      }
    }
    due.isTrue("constants " + constants, constants.equals(setOf(CONSTANTS)));
    Constructor<?>[] made = EggScales.class.getDeclaredConstructors();
    due.isTrue("one public constructor without parameters", made.length == 1
        && made[0].getParameterCount() == 0 && Modifier.isPublic(made[0].getModifiers()));
    due.isTrue("the class is public and final", Modifier.isFinal(EggScales.class.getModifiers())
        && Modifier.isPublic(EggScales.class.getModifiers()));
    for (Class<?> c : EggScales.class.getDeclaredClasses()) {
      due.isTrue(c + " is static and not public", Modifier.isStatic(c.getModifiers())
          && !Modifier.isPublic(c.getModifiers()) && !Modifier.isProtected(c.getModifiers()));
      for (Method m : c.getDeclaredMethods()) {
        due.isTrue(m + " bears no public name", !publicNames.contains(m.getName()));
      }
    }
    due.end();
  }

  private static String described(Method m) {
    StringBuilder text = new StringBuilder(m.getReturnType() + " " + m.getName() + "(");
    for (Class<?> p : m.getParameterTypes()) {
      text.append(text.charAt(text.length() - 1) == '(' ? "" : ",").append(p);
    }
    return text.append(")").toString();
  }

  private static TreeSet<String> setOf(String[] names) {
    return new TreeSet<>(java.util.Arrays.asList(names));
  }
}
