import java.lang.reflect.Constructor;
import java.lang.reflect.Field;
import java.lang.reflect.Method;
import java.lang.reflect.Modifier;
import java.util.Arrays;
import java.util.Set;
import java.util.TreeSet;

/** The public face is the document's and no more. */
public final class FaceTest {
  private static final String[] FACE = {
    "void sign(int) IllegalArgumentException UnsupportedOperationException",
    "int read() UnsupportedOperationException",
    "int place(int,int) IllegalArgumentException",
    "int named(int)",
    "int check()",
    "int fault(int,int) IndexOutOfBoundsException IllegalArgumentException",
    "int piece(int,int) IndexOutOfBoundsException IllegalArgumentException",
    "boolean inside(int,int) IllegalArgumentException",
    "void fill(int,int,int) IllegalArgumentException",
    "int differ(int) IllegalArgumentException",
    "int moved(int) IndexOutOfBoundsException",
    "int print()",
    "int at(int) IndexOutOfBoundsException",
    "int count(int)",
  };

  private static final Due DUE = new Due("FaceTest");

  public static void main(String[] args) {
    DUE.test("the public face", "public final class BuildingText", FaceTest::classAndConstructor);
    DUE.test("the public face", "public void sign(int c) throws IllegalArgumentException, UnsupportedOperationException | and all others", FaceTest::methods);
    DUE.test("the public face", "public final class BuildingText | no field", FaceTest::fields);
    DUE.end();
  }

  private static void methods() {
    Set<String> wanted = new TreeSet<>(Arrays.asList(FACE));
    Set<String> found = new TreeSet<>();
    for (Method method : BuildingText.class.getDeclaredMethods()) {
      if (!Modifier.isPrivate(method.getModifiers())) {
        DUE.same("modifiers of " + method.getName(), method.getModifiers(), Modifier.PUBLIC);
        found.add(describe(method));
      }
    }
    DUE.same("the face", String.join("\n", found), String.join("\n", wanted));
  }

  private static void fields() {
    for (Field field : BuildingText.class.getDeclaredFields()) {
      DUE.holds(field + " is private", Modifier.isPrivate(field.getModifiers()));
      DUE.holds(field + " is final if static",
          !Modifier.isStatic(field.getModifiers()) || Modifier.isFinal(field.getModifiers()));
    }
  }

  private static void classAndConstructor() {
    Constructor<?>[] constructors = BuildingText.class.getDeclaredConstructors();
    DUE.same("constructors", constructors.length, 1);
    DUE.same("the constructor's parameters", constructors[0].getParameterCount(), 0);
    DUE.same("the constructor's modifiers", constructors[0].getModifiers(), Modifier.PUBLIC);
    DUE.same("the class's modifiers", BuildingText.class.getModifiers(),
        Modifier.PUBLIC | Modifier.FINAL);
  }

  private static String describe(Method method) {
    StringBuilder text = new StringBuilder();
    text.append(method.getReturnType().getSimpleName()).append(' ').append(method.getName());
    String[] parameters = new String[method.getParameterCount()];
    for (int i = 0; i < parameters.length; i++) {
      parameters[i] = method.getParameterTypes()[i].getSimpleName();
    }
    text.append('(').append(String.join(",", parameters)).append(')');
    for (Class<?> thrown : method.getExceptionTypes()) {
      text.append(' ').append(thrown.getSimpleName());
    }
    return text.toString();
  }
}
