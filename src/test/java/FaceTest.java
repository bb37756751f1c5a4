import java.lang.reflect.Constructor;
import java.lang.reflect.Field;
import java.lang.reflect.Method;
import java.lang.reflect.Modifier;
import java.util.Arrays;
import java.util.Set;
import java.util.TreeSet;

/** The public face is the document's and no more. */
public final class FaceTest {
  private static final String[] FACE = {
    "void sign(int) IllegalArgumentException UnsupportedOperationException",
    "int read() UnsupportedOperationException",
    "int place(int,int) IllegalArgumentException",
    "int named(int)",
    "int check()",
    "int fault(int,int) IndexOutOfBoundsException IllegalArgumentException",
    "int piece(int,int) IndexOutOfBoundsException IllegalArgumentException",
    "boolean inside(int,int) IllegalArgumentException",
    "void fill(int,int,int) IllegalArgumentException",
    "int differ(int) IllegalArgumentException",
    "int moved(int) IndexOutOfBoundsException",
    "int print()",
    "int at(int) IndexOutOfBoundsException",
    "int count(int)",
  };

  public static void main(String[] args) {
    Due due = new Due("FaceTest");
    Set<String> wanted = new TreeSet<>(Arrays.asList(FACE));
    Set<String> found = new TreeSet<>();
    for (Method method : BuildingText.class.getDeclaredMethods()) {
      if (!Modifier.isPrivate(method.getModifiers())) {
        due.same("modifiers of " + method.getName(), method.getModifiers(), Modifier.PUBLIC);
        found.add(describe(method));
      }
    }
    due.same("the face", String.join("\n", found), String.join("\n", wanted));
    for (Field field : BuildingText.class.getDeclaredFields()) {
      due.holds(field + " is private", Modifier.isPrivate(field.getModifiers()));
      due.holds(field + " is final if static",
          !Modifier.isStatic(field.getModifiers()) || Modifier.isFinal(field.getModifiers()));
    }
    Constructor<?>[] constructors = BuildingText.class.getDeclaredConstructors();
    due.same("constructors", constructors.length, 1);
    due.same("the constructor's parameters", constructors[0].getParameterCount(), 0);
    due.same("the constructor's modifiers", constructors[0].getModifiers(), Modifier.PUBLIC);
    due.same("the class's modifiers", BuildingText.class.getModifiers(),
        Modifier.PUBLIC | Modifier.FINAL);
    due.end();
  }

  private static String describe(Method method) {
    StringBuilder text = new StringBuilder();
    text.append(method.getReturnType().getSimpleName()).append(' ').append(method.getName());
    String[] parameters = new String[method.getParameterCount()];
    for (int i = 0; i < parameters.length; i++) {
      parameters[i] = method.getParameterTypes()[i].getSimpleName();
    }
    text.append('(').append(String.join(",", parameters)).append(')');
    for (Class<?> thrown : method.getExceptionTypes()) {
      text.append(' ').append(thrown.getSimpleName());
    }
    return text.toString();
  }
}
