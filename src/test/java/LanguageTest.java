import java.nio.file.Files;
import java.nio.file.Path;
import java.util.regex.Matcher;
import java.util.regex.Pattern;

/** The rules of LANGUAGE.md that can be looked for in the text of the program. */
public final class LanguageTest {
  private static final String[] BANNED = {
    "\\b(throw|throws|try|catch|synchronized|assert|package|lambda)\\b", "->", "::",
    "\\b(equals|hashCode|toString)\\s*\\(", "\\bnew\\s+\\w+\\s*\\([^)]*\\)\\s*\\{", "@\\w+",
    "\\bSystem\\.(?!arraycopy)", "\\w+Exact\\b", "\\bjava\\.(?!util\\.Arrays;)", "\\b(Random|Thread|Object)\\b",
    "\\b(float|double)\\b", "[^\\x01-\\x7e]"};

  public static void main(String[] args) throws Exception {
    Check.in("LANGUAGE.md");
    String text = Files.readString(Path.of("src/main/java/PointMaps.java"));
    String code = text.replaceAll("(?s)/\\*.*?\\*/", "").replaceAll("//[^\n]*", "");
    for (String banned : BANNED) {
      Matcher m = Pattern.compile(banned).matcher(code);
      Check.so("no " + banned + (m.find() ? " but there is: " + m.group() : ""), !m.reset().find());
    }
    Check.so("some twelve classes", count("\\bclass\\s+\\w+\\s*\\{", code) <= 12);
    Check.so("no index without a look, but in the two functions that look", count("\\b(?!int\\b)\\w+\\[", code) <= 2);
    Check.so("rows are made with the object alone", madeInMethods(code) == 0);
    Check.end();
  }

  private static int count(String pattern, String code) {
    Matcher m = Pattern.compile(pattern).matcher(code);
    int found = 0;
    while (m.find()) {
      found++;
    }
    return found;
  }

  /** A row or object is made in a field's line or in a constructor, so as name = new ..; and never returned or passed. */
  private static int madeInMethods(String code) {
    return count("\\bnew\\b", code) - count("\\w+ = new \\w+[\\[(][^;]*;", code);
  }
}
