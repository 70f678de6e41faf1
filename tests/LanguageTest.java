import java.lang.reflect.Constructor;
import java.lang.reflect.Field;
import java.lang.reflect.Method;
import java.lang.reflect.Modifier;
import java.nio.file.Files;
import java.nio.file.Path;
import java.util.Set;
import java.util.TreeSet;
import java.util.regex.Matcher;
import java.util.regex.Pattern;

/** The rules of LANGUAGE.md that can be seen from the outside of the class and from its words. */
public final class LanguageTest {
  private static final Check c = new Check();
  private static final String FACE = "state(int) lark(int) good(int) trader(int) set(int,int,int) act(int,int,int) days(int)"
      + " feed(int,int,int,int,int) end(int) text(int) fault(int) of(int,int) goodOf(int,int) who(int,int) book(int,int)"
      + " goes(int,int) ruin(int) price(int) trading(int,int) change(int,int,int) round(int,int) parts(int,int,int)"
      + " loaves(int,int,int) sticks(int,int) twos(int,int) words(int,int) window(int,int) row(int) fifths(int,int)"
      + " way(int,int) caught(int,int) sack(int,int) packed(int,int) shares(int,int) game(int,int,int) undo()"
      + " image(boolean) look(int)";

  private static void wrong(String what) { c.due(what, 1, 0); }

  private static void face() {
    Set<String> due = new TreeSet<>(Set.of(FACE.split(" ")));
    Set<String> found = new TreeSet<>();
    for (Method m : LarkExchange.class.getDeclaredMethods()) {
      if (Modifier.isPrivate(m.getModifiers())) continue;
      StringBuilder s = new StringBuilder(m.getName()).append('(');
      for (Class<?> p : m.getParameterTypes()) s.append(s.charAt(s.length() - 1) == '(' ? "" : ",").append(p.getName());
      found.add(s.append(')').toString());
      if (!Modifier.isPublic(m.getModifiers()) || Modifier.isStatic(m.getModifiers())) wrong("not plainly public: " + m);
    }
    c.due("the face " + found, found.equals(due), true);
    for (Field f : LarkExchange.class.getDeclaredFields())
      if (!Modifier.isPrivate(f.getModifiers()) && !f.getName().equals("NONE")) wrong("not private: " + f);
    Constructor<?>[] made = LarkExchange.class.getDeclaredConstructors();
    c.due("one constructor", made.length, 1);
    c.due("it is public", Modifier.isPublic(made[0].getModifiers()), true);
    c.due("public and final", LarkExchange.class.getModifiers(), Modifier.PUBLIC | Modifier.FINAL);
  }

  private static void classes() {
    Set<String> names = new TreeSet<>();
    for (String s : FACE.split(" ")) names.add(s.substring(0, s.indexOf('(')));
    Class<?>[] inside = LarkExchange.class.getDeclaredClasses();
    c.due("twelve classes at most", inside.length + 1 <= 12, true);
    looksAt(LarkExchange.class, Set.of());
    for (Class<?> one : inside) {
      c.due(one + " is static", Modifier.isStatic(one.getModifiers()), true);
      c.due(one + " is not seen outside", (one.getModifiers() & (Modifier.PUBLIC | Modifier.PROTECTED)) == 0, true);
      looksAt(one, names);
    }
  }
  private static void looksAt(Class<?> one, Set<String> taken) {
    int fields = 0;
    for (Field f : one.getDeclaredFields()) {
      if (!Modifier.isStatic(f.getModifiers())) fields++;
      else if (!Modifier.isFinal(f.getModifiers())) wrong("static and not final: " + f);
    }
    c.due(one + " has some twenty fields", fields <= 20, true);
    for (Method m : one.getDeclaredMethods()) {
      c.due(m + " takes seven at most", m.getParameterCount() <= 7, true);
      if (taken.contains(m.getName())) wrong("bears the name of a public one: " + m);
    }
  }

  private static void source() throws Exception {
    String s = Files.readString(Path.of("src/main/java/LarkExchange.java"));
    for (int i = 0; i < s.length(); i++) if (s.charAt(i) > 126) wrong("a sign beyond 126 at " + i);
    String bare = s.replaceAll("(?s)/\\*.*?\\*/", "").replaceAll("//[^\n]*", "").replaceAll("\"[^\"\n]*\"", "\"\"");
    String[] never = {"throw", "throws", "try", "catch", "finally", "synchronized", "assert", "volatile", "native", "transient",
        "package", "Object", "System\\.(?!arraycopy)", "Arrays\\.(?!fill|copyOf|import)", "->", "::", "@", "\"\"\\s*\\+", "\\+\\s*\"\""};
    for (String word : never) {
      Matcher m = Pattern.compile(Character.isLetter(word.charAt(0)) ? "\\b" + word + (word.endsWith(")") ? "" : "\\b") : word).matcher(bare);
      if (m.find()) wrong("has '" + word + "': " + bare.substring(m.start(), Math.min(bare.length(), m.start() + 40)));
    }
    Matcher imports = Pattern.compile("import ([^;]+);").matcher(bare);
    while (imports.find()) c.due("import " + imports.group(1), imports.group(1).equals("java.util.Arrays"), true);
    lengths(s.split("\n"));
  }
  private static void lengths(String[] lines) {
    int from = -1;
    String indent = "";
    for (int i = 0; i < lines.length; i++) {
      Matcher m = Pattern.compile("^( {4}| {8})[a-zA-Z][^=;]*\\) \\{$").matcher(lines[i]);
      if (m.find()) { from = i; indent = m.group(1); }
      if (from >= 0 && lines[i].equals(indent + "}")) {
        c.due("sixty lines at most: " + lines[from].trim(), i - from <= 60, true);
        from = -1;
      }
    }
  }

  public static void main(String[] args) throws Exception {
    face();
    classes();
    source();
    c.ends();
  }
}
