import java.lang.reflect.Method;
import java.util.Arrays;
import java.util.HashMap;
import java.util.Map;

/** A call by its name and numbers, to be asked of PointMaps and of Plain alike. */
final class Call {
  private static final Map<String, Method> OF_POINT_MAPS = methods(PointMaps.class);
  private static final Map<String, Method> OF_PLAIN = methods(Plain.class);

  private final String name;
  private final int[] numbers;

  private Call(String name, int[] numbers) {
    this.name = name;
    this.numbers = numbers;
  }

  static Call of(String name, int... numbers) {
    return new Call(name, numbers);
  }

  int ask(PointMaps x) {
    return ask(OF_POINT_MAPS, x);
  }

  int ask(Plain y) {
    return ask(OF_PLAIN, y);
  }

  private int ask(Map<String, Method> methods, Object asked) {
    Object[] told = Arrays.stream(numbers).boxed().toArray();
    try {
      return (Integer) methods.get(name + numbers.length).invoke(asked, told);
    } catch (ReflectiveOperationException e) {
      throw new IllegalStateException(this + " can't be asked", e);
    }
  }

  private static Map<String, Method> methods(Class<?> c) {
    Map<String, Method> found = new HashMap<>();
    for (Method m : c.getDeclaredMethods()) {
      found.put(m.getName() + m.getParameterCount(), m);
    }
    return found;
  }

  @Override
  public String toString() {
    return name + Arrays.toString(numbers);
  }
}
