import java.lang.reflect.Constructor;
import java.lang.reflect.Field;
import java.lang.reflect.Method;
import java.lang.reflect.Modifier;
import java.util.Arrays;
import java.util.Set;
import java.util.TreeSet;

/** The class has the document's face, and nothing else that others see. */
public final class FaceTest {
  private static final Set<String> FACE = new TreeSet<>(Arrays.asList(
      "points 1", "letter 1", "drop 0", "elements 1", "element 2", "word 2", "find 1", "done 2",
      "boxes 1", "box 2", "about 2", "below 2", "ideal 1", "sort 1", "solve 4",
      "together 2", "lowest 1", "apart 0", "cut 2", "cuts 0", "twists 0",
      "set 2", "taken 1", "least 0", "parting 3", "meanings 1", "count 1"));

  public static void main(String[] args) {
    Check.in("the face");
    Check.due("BAD", -1, PointMaps.BAD);
    Check.due("FULL", -3, PointMaps.FULL);
    Check.due("SPENT", -5, PointMaps.SPENT);
    Check.due("NONE", -9, PointMaps.NONE);
    Check.so("public and final", Modifier.isPublic(PointMaps.class.getModifiers())
        && Modifier.isFinal(PointMaps.class.getModifiers()));
    Check.so("one public constructor without arguments", hasPlainConstructor());
    Check.so("the public methods", publicMethods().equals(FACE));
    Check.so("four public constants, all else private", fieldsAreHidden());
    Check.so("no other method is seen", otherMethodsArePrivate(PointMaps.class));
    Check.so("classes inside are static, none bears a public method's name", insideIsAsTold());
    Check.end();
  }

  private static boolean hasPlainConstructor() {
    Constructor<?>[] all = PointMaps.class.getDeclaredConstructors();
    return all.length == 1 && all[0].getParameterCount() == 0 && Modifier.isPublic(all[0].getModifiers());
  }

  private static Set<String> publicMethods() {
    Set<String> found = new TreeSet<>();
    for (Method m : PointMaps.class.getDeclaredMethods()) {
      if (Modifier.isPublic(m.getModifiers()) && m.getReturnType() == int.class) {
        found.add(m.getName() + " " + m.getParameterCount());
      }
    }
    return found;
  }

  private static boolean fieldsAreHidden() {
    int constants = 0;
    for (Field f : PointMaps.class.getDeclaredFields()) {
      int is = f.getModifiers();
      if (Modifier.isPublic(is) && Modifier.isStatic(is) && Modifier.isFinal(is)) {
        constants++;
      } else if (!Modifier.isPrivate(is)) {
        return false;
      }
      if (Modifier.isStatic(is) && !Modifier.isFinal(is)) {
        return false;
      }
    }
    return constants == 4;
  }

  private static boolean otherMethodsArePrivate(Class<?> c) {
    for (Method m : c.getDeclaredMethods()) {
      if (!Modifier.isPublic(m.getModifiers()) && !Modifier.isPrivate(m.getModifiers())) {
        return false;
      }
      if (Modifier.isPrivate(m.getModifiers()) && isPublicName(m.getName())) {
        return false;
      }
    }
    return true;
  }

  private static boolean insideIsAsTold() {
    for (Class<?> c : PointMaps.class.getDeclaredClasses()) {
      if (!Modifier.isStatic(c.getModifiers()) || Modifier.isPublic(c.getModifiers())) {
        return false;
      }
      for (Method m : c.getDeclaredMethods()) {
        if (isPublicName(m.getName())) {
          return false;
        }
      }
    }
    return true;
  }

  private static boolean isPublicName(String name) {
    for (String told : FACE) {
      if (told.startsWith(name + " ")) {
        return true;
      }
    }
    return false;
  }
}
