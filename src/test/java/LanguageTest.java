import java.lang.reflect.Field;
import java.lang.reflect.Method;
import java.lang.reflect.Modifier;
import java.nio.file.Files;
import java.nio.file.Path;
import java.util.ArrayList;
import java.util.List;
import java.util.regex.Matcher;
import java.util.regex.Pattern;

/** The rules of LANGUAGE.md that can be looked for in the text of the program. */
public final class LanguageTest {
  private static final String[] BANNED = {
    "\\b(throw|throws|try|catch|synchronized|assert|package|lambda)\\b", "->", "::",
    "\\b(equals|hashCode|toString)\\s*\\(", "\\bnew\\s+\\w+\\s*\\([^)]*\\)\\s*\\{", "@\\w+",
    "\\bSystem\\.(?!arraycopy)", "\\w+Exact\\b", "\\bjava\\.(?!util\\.Arrays;)", "\\b(Random|Thread|Object)\\b",
    "\\b(float|double)\\b", "[^\\x01-\\x7e]"};

  public static void main(String[] args) throws Exception {
    Check.in("LANGUAGE.md");
    String text = Files.readString(Path.of("src/main/java/PointMaps.java"));
    String code = text.replaceAll("(?s)/\\*.*?\\*/", "").replaceAll("//[^\n]*", "");
    for (String banned : BANNED) {
      Matcher m = Pattern.compile(banned).matcher(code);
      Check.so("no " + banned + (m.find() ? " but there is: " + m.group() : ""), !m.reset().find());
    }
    Check.so("some twelve classes", count("\\bclass\\s+\\w+\\s*\\{", code) <= 12);
    Check.so("no index without a look, but in the two functions that look", count("\\b(?!int\\b)\\w+\\[", code) <= 2);
    Check.so("rows are made with the object alone", madeInMethods(code) == 0);
    Check.so("no method of more than sixty lines", longestMethod(code) <= 60);
    Check.so("no method of more than seven parameters", mostParameters() <= 7);
    Check.so("no class of more than twenty fields", mostFields() <= 20);
    Check.end();
  }

  /** All classes of the file: the one of the document, and those inside it. */
  private static List<Class<?>> classes() {
    List<Class<?>> all = new ArrayList<>(List.of(PointMaps.class.getDeclaredClasses()));
    all.add(PointMaps.class);
    return all;
  }

  /** Methods begin four or eight places in, and end with a brace as far in. */
  private static long longestMethod(String code) {
    Matcher m = Pattern.compile("(?ms)^(    |        )(?!\\s)(?![^\n]*\\bclass\\b)[^\n]*\\) \\{\n.*?^\\1\\}").matcher(code);
    long longest = 0;
    int found = 0;
    while (m.find()) {
      longest = Math.max(longest, m.group().lines().count());
      found++;
    }
    return found > 100 ? longest : Long.MAX_VALUE;
  }

  private static int mostParameters() {
    int most = 0;
    for (Class<?> c : classes()) {
      for (Method m : c.getDeclaredMethods()) {
        most = Math.max(most, m.getParameterCount());
      }
    }
    return most;
  }

  private static int mostFields() {
    int most = 0;
    for (Class<?> c : classes()) {
      int fields = 0;
      for (Field f : c.getDeclaredFields()) {
        fields += Modifier.isStatic(f.getModifiers()) ? 0 : 1;
      }
      most = Math.max(most, fields);
    }
    return most;
  }

  private static int count(String pattern, String code) {
    Matcher m = Pattern.compile(pattern).matcher(code);
    int found = 0;
    while (m.find()) {
      found++;
    }
    return found;
  }

  /** A row or object is made in a field's line or in a constructor, so as name = new ..; and never returned or passed. */
  private static int madeInMethods(String code) {
    return count("\\bnew\\b", code) - count("\\w+ = new \\w+[\\[(][^;]*;", code);
  }
}
