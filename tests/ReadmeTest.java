import java.lang.reflect.Method;
import java.lang.reflect.Modifier;
import java.nio.file.Files;
import java.nio.file.Path;
import java.util.regex.Matcher;
import java.util.regex.Pattern;

/** README.md says how to use the class: its example answers as it says, and each call is named. */
public final class ReadmeTest {
  private static final Pattern LINE = Pattern.compile("x\\.(\\w+)\\(([^)]*)\\);\\s*// (-?\\d+|true|false)(:.*)?");
  private static final Check c = new Check();

  private static Method named(String name) {
    for (Method m : LarkExchange.class.getDeclaredMethods())
      if (Modifier.isPublic(m.getModifiers()) && m.getName().equals(name)) return m;
    throw new IllegalStateException("README.md names a call that there is not: " + name);
  }
  private static Object[] values(String told) {
    if (told.isBlank()) return new Object[0];
    String[] parts = told.split(",");
    Object[] values = new Object[parts.length];
    for (int i = 0; i < parts.length; i++) {
      String one = parts[i].trim();
      values[i] = one.equals("true") || one.equals("false") ? (Object) Boolean.valueOf(one) : Integer.valueOf(one);
    }
    return values;
  }
  private static void example(String block) throws Exception {
    LarkExchange x = new LarkExchange();
    for (String line : block.split("\n")) {
      if (line.isBlank() || line.startsWith("//") || line.equals("LarkExchange x = new LarkExchange();")) continue;
      Matcher m = LINE.matcher(line);
      if (!m.matches()) {
        c.due("a call and its answer: " + line, 0, 1);
        continue;
      }
      String got = String.valueOf(named(m.group(1)).invoke(x, values(m.group(2))));
      c.due(line + " and answers " + got, got.equals(m.group(3)), true);
    }
  }

  public static void main(String[] args) throws Exception {
    String readme = Files.readString(Path.of("README.md"));
    Matcher block = Pattern.compile("(?s)```java\n(.*?)```").matcher(readme);
    c.due("README.md has an example", block.find(), true);
    example(block.group(1));
    String table = readme.substring(readme.indexOf("| calls |"), readme.indexOf("## How it is built"));
    for (Method m : LarkExchange.class.getDeclaredMethods())
      if (Modifier.isPublic(m.getModifiers())) c.due("the table names " + m.getName(), table.contains("`" + m.getName() + "`"), true);
    c.ends();
  }
}
