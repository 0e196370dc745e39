import java.lang.reflect.Constructor;
import java.lang.reflect.Field;
import java.lang.reflect.Method;
import java.lang.reflect.Modifier;
import java.util.Arrays;
import java.util.TreeSet;

/** The public face is the document's, and nothing else of the class can be seen. */
public final class FaceTest {
  public static void main(String[] args) throws Exception {
    Class<?> face = SharedLambda.class;
    Checks.due("final", Modifier.isFinal(face.getModifiers()) ? 1 : 0, 1);
    Checks.due("NONE", SharedLambda.NONE, -1);
    Checks.due("NONE is constant", Modifier.toString(face.getField("NONE").getModifiers()), "public static final");
    TreeSet<String> seen = new TreeSet<>();
    TreeSet<String> hidden = new TreeSet<>();
    for (Method method : face.getDeclaredMethods()) {
      if (Modifier.isPrivate(method.getModifiers())) {
        hidden.add(method.getName());
      } else {
        seen.add(method.getReturnType() + " " + method.getName() + Arrays.toString(method.getParameterTypes()));
      }
    }
    Checks.due("methods", seen.toString(), "[int count[int], int letter[int], int nodes[int], int read[], int run[int],"
        + " int type[long, int], void keep[int]]");
    for (String name : new String[] {"type", "keep", "read", "run", "count", "letter", "nodes"}) {
      Checks.due("a hidden " + name, hidden.contains(name) ? 1 : 0, 0);
    }
    for (Field field : face.getDeclaredFields()) {
      boolean isHidden = Modifier.isPrivate(field.getModifiers());
      Checks.due("field " + field.getName(), isHidden || field.getName().equals("NONE") ? 1 : 0, 1);
    }
    Constructor<?>[] constructors = face.getDeclaredConstructors();
    Checks.due("constructors", constructors.length, 1);
    Checks.due("constructor", constructors[0].toString(), "public SharedLambda()");
    Checks.end();
  }
}
