import java.lang.reflect.Constructor;
import java.lang.reflect.Field;
import java.lang.reflect.Method;
import java.lang.reflect.Modifier;
import java.nio.file.Files;
import java.nio.file.Path;
import java.util.Arrays;
import java.util.HashSet;
import java.util.Set;
import java.util.TreeSet;
import java.util.regex.Matcher;
import java.util.regex.Pattern;

/** The class has the document's face and nothing else that can be seen from outside. */
public final class FaceTest {
  private static final Check C = new Check("FaceTest");

  public static void main(String[] args) throws Exception {
    Set<String> due = facePrinted();
    Set<String> got = new TreeSet<>();
    Set<String> names = new HashSet<>();
    Class<?> type = AccusedChoose.class;
    for (Method m : type.getDeclaredMethods()) {
      if (Modifier.isPublic(m.getModifiers())) {
        got.add(signature(m));
        names.add(m.getName());
      } else {
        C.same(m + " is private", Modifier.isPrivate(m.getModifiers()) ? 1 : 0, 1);
      }
    }
    for (Method m : type.getDeclaredMethods()) {
      boolean twice = !Modifier.isPublic(m.getModifiers()) && names.contains(m.getName());
      C.same(m + " bears the name of a public one", twice ? 1 : 0, 0);
    }
    C.same("methods in the document", due.size(), 50);
    C.same("the face is " + got + " and should be " + due, got.equals(due) ? 1 : 0, 1);
    C.same("final", Modifier.isFinal(type.getModifiers()) ? 1 : 0, 1);
    C.same("public", Modifier.isPublic(type.getModifiers()) ? 1 : 0, 1);
    Constructor<?>[] all = type.getDeclaredConstructors();
    C.same("constructors", all.length, 1);
    C.same("public constructor", Modifier.isPublic(all[0].getModifiers()) ? 1 : 0, 1);
    C.same("its parameters", all[0].getParameterCount(), 0);
    lookAtFields(type);
    Class<?>[] inside = type.getDeclaredClasses();
    C.same("classes are some twelve at most", inside.length < 12 ? 1 : 0, 1);
    for (Class<?> one : inside) {
      int modifiers = one.getModifiers();
      boolean seen = Modifier.isPublic(modifiers) || Modifier.isProtected(modifiers);
      C.same(one + " is static and not public", Modifier.isStatic(modifiers) && !seen ? 1 : 0, 1);
      lookAtFields(one);
    }
    C.end();
  }

  private static void lookAtFields(Class<?> type) {
    int own = 0;
    for (Field f : type.getDeclaredFields()) {
      int modifiers = f.getModifiers();
      if (Modifier.isStatic(modifiers)) {
        C.same(f + " is final", Modifier.isFinal(modifiers) ? 1 : 0, 1);
      } else {
        own++;
      }
      if (type == AccusedChoose.class) {
        C.same(f + " is private", Modifier.isPrivate(modifiers) ? 1 : 0, 1);
      }
    }
    C.same("fields of " + type, own <= 20 ? 1 : 0, 1);
  }

  private static String signature(Method m) {
    StringBuilder s = new StringBuilder();
    s.append(m.getReturnType().getSimpleName()).append(' ').append(m.getName());
    for (Class<?> p : m.getParameterTypes()) {
      s.append(' ').append(p.getSimpleName());
    }
    return s.toString();
  }

  /** As signature() has it, from the document's text. */
  private static Set<String> facePrinted() throws Exception {
    Set<String> all = new TreeSet<>();
    Pattern form = Pattern.compile("    public (int|long) (\\w+)\\((.*)\\);");
    for (String line : Files.readAllLines(Path.of("../shared/DOC.md"))) {
      Matcher m = form.matcher(line);
      if (m.matches()) {
        StringBuilder s = new StringBuilder(m.group(1)).append(' ').append(m.group(2));
        if (!m.group(3).isEmpty()) {
          Arrays.stream(m.group(3).split(", ")).forEach(p -> s.append(' ').append(p.split(" ")[0]));
        }
        all.add(s.toString());
      }
    }
    return all;
  }
}
