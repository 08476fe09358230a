import java.lang.reflect.Method;
import java.lang.reflect.Modifier;
import java.nio.file.Files;
import java.nio.file.Path;
import java.util.HashSet;
import java.util.Set;
import java.util.regex.Matcher;
import java.util.regex.Pattern;

/** README.md shows each public method and constant, and what it tells of them is so. */
public final class ReadmeTest {
  private static final Pattern SHOWN = Pattern.compile("(?m)^x\\.(\\w+)\\(([-\\d, ]*)\\); *// (-?\\d+)[:;]");

  public static void main(String[] args) throws Exception {
    Check.in("README.md");
    String text = Files.readString(Path.of("README.md"));
    Set<String> shown = askedInOrder(text);
    for (Method m : PointMaps.class.getDeclaredMethods()) {
      if (Modifier.isPublic(m.getModifiers())) {
        Check.so(m.getName() + " is shown", shown.contains(m.getName()));
      }
    }
    constantIsTold(text, "BAD", PointMaps.BAD);
    constantIsTold(text, "FULL", PointMaps.FULL);
    constantIsTold(text, "SPENT", PointMaps.SPENT);
    constantIsTold(text, "NONE", PointMaps.NONE);
    Check.end();
  }

  private static Set<String> askedInOrder(String text) {
    PointMaps x = new PointMaps();
    Set<String> names = new HashSet<>();
    int calls = 0;
    Matcher m = SHOWN.matcher(text);
    while (m.find()) {
      Call call = Call.of(m.group(1), numbers(m.group(2)));
      Check.due(call.toString(), Integer.parseInt(m.group(3)), call.ask(x));
      names.add(m.group(1));
      calls++;
    }
    Check.due("lines with a call that tell an answer", linesWithCalls(text), calls);
    return names;
  }

  private static int[] numbers(String told) {
    if (told.isBlank()) {
      return new int[0];
    }
    String[] parts = told.split(", *");
    int[] numbers = new int[parts.length];
    for (int i = 0; i < parts.length; i++) {
      numbers[i] = Integer.parseInt(parts[i]);
    }
    return numbers;
  }

  private static long linesWithCalls(String text) {
    return text.lines().filter(line -> line.startsWith("x.")).count();
  }

  private static void constantIsTold(String text, String name, int value) {
    Check.so(name + " is told", text.contains("`" + name + "`, " + value));
  }
}
