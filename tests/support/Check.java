import java.io.IOException;
import java.nio.file.Files;
import java.nio.file.Path;
import java.util.Set;
import java.util.TreeSet;

/** What the tests share: counting wrong answers, naming the sentence that is tested, and telling a text as the TAPE. */
public final class Check {
  private static final Path DOCUMENT = Path.of("../shared/DOC.md");
  private int wrong = 0;
  private int asked = 0;
  private String tested = "";
  private final Set<Integer> named = new TreeSet<>();
  private String document = null;

  /** All that follows belongs to this promise and tests these words, which must stand in the document. */
  public void sentence(int promise, String words) {
    tested = "promise " + promise + " \"" + words + "\": ";
    named.add(promise);
    if (document == null) document = readDocument();
    if (!document.isEmpty() && !document.contains(words)) due("the words stand in the document", 0, 1);
  }
  private static String readDocument() {
    if (!Files.exists(DOCUMENT)) {
      System.out.println("no " + DOCUMENT + " here: the quoted words are not looked up");
      return "";
    }
    try {
      return Files.readString(DOCUMENT).replaceAll("\\s+", " ");
    } catch (IOException e) {
      throw new IllegalStateException(e);
    }
  }
  /** Each promise from .. to must have been named by a sentence. */
  public void namesAll(int from, int to) {
    tested = "";
    for (int promise = from; promise <= to; promise++)
      if (!named.contains(promise)) due("promise " + promise + " is tested", 0, 1);
  }

  public void due(String what, long got, long want) {
    asked++;
    if (got != want) {
      wrong++;
      System.out.println(tested + what + ": answered " + got + ", due is " + want);
    }
  }
  public void due(String what, boolean got, boolean want) { due(what, got ? 1 : 0, want ? 1 : 0); }

  /** A town of larks of voice 3, goods of base 10, traders with a purse of 100. */
  public static LarkExchange town(int larks, int goods, int traders) {
    LarkExchange x = new LarkExchange();
    for (int i = 0; i < larks; i++) x.lark(3);
    for (int i = 0; i < goods; i++) x.good(10);
    for (int i = 0; i < traders; i++) x.trader(100);
    return x;
  }

  /** The STATE ahead of a DRAW behind which STATE is next. */
  public static int stateAhead(int next) {
    int inverse = 1664525;
    for (int i = 0; i < 5; i++) inverse *= 2 - 1664525 * inverse;
    return (next - 1013904223) * inverse;
  }

  /** Feeds a text and cuts what filled it up; it must fit on the TAPE. */
  public static void feed(LarkExchange x, String s) {
    int before = 0;
    for (int i = 0; i < s.length(); i += 20) {
      int[] v = new int[5];
      for (int j = 0; j < 20; j++) {
        int c = i + j < s.length() ? s.charAt(i + j) : ' ';
        v[j / 4] |= c << 24 - 8 * (j % 4);
      }
      before = x.feed(v[0], v[1], v[2], v[3], v[4]);
    }
    if (!x.end(s.length()) || before < s.length()) throw new IllegalStateException("the tape was not empty: " + s);
  }
  public static int text(LarkExchange x, int k, String s) { feed(x, s); return x.text(k); }

  /** A text that must be without a FAULT. */
  public void fine(LarkExchange x, int k, String s, int lines) {
    due("text " + k + " '" + s + "'", text(x, k, s), lines);
    due("no fault of '" + s + "'", x.fault(0), 0);
    due("no place of '" + s + "'", x.fault(1), -1);
  }

  /** A text with a FAULT: which, and where. */
  public void faulty(LarkExchange x, int k, String s, int fault, int place) {
    due("text " + k + " '" + s + "'", text(x, k, s), -1);
    due("fault of '" + s + "'", x.fault(0), fault);
    due("place of '" + s + "'", x.fault(1), place);
  }

  public void ends() {
    System.out.println(asked + " answers, " + wrong + " not as due");
    if (wrong != 0) System.exit(1);
  }
}
