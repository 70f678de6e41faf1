/** What the tests share: counting wrong answers, and telling a text as the TAPE. */
public final class Check {
  private int wrong = 0;
  private int asked = 0;

  public void due(String what, long got, long want) {
    asked++;
    if (got != want) {
      wrong++;
      System.out.println(what + ": answered " + got + ", due is " + want);
    }
  }
  public void due(String what, boolean got, boolean want) { due(what, got ? 1 : 0, want ? 1 : 0); }

  /** Feeds a text and cuts what filled it up; it must fit on the TAPE. */
  public static void feed(LarkExchange x, String s) {
    int before = 0;
    for (int i = 0; i < s.length(); i += 20) {
      int[] v = new int[5];
      for (int j = 0; j < 20; j++) {
        int c = i + j < s.length() ? s.charAt(i + j) : ' ';
        v[j / 4] |= c << 24 - 8 * (j % 4);
      }
      before = x.feed(v[0], v[1], v[2], v[3], v[4]);
    }
    if (!x.end(s.length()) || before < s.length()) throw new IllegalStateException("the tape was not empty: " + s);
  }
  public static int text(LarkExchange x, int k, String s) { feed(x, s); return x.text(k); }

  /** A text with a FAULT: which, and where. */
  public void faulty(LarkExchange x, int k, String s, int fault, int place) {
    due("text " + k + " '" + s + "'", text(x, k, s), -1);
    due("fault of '" + s + "'", x.fault(0), fault);
    due("place of '" + s + "'", x.fault(1), place);
  }

  public void ends() {
    System.out.println(asked + " answers, " + wrong + " not as due");
    if (wrong != 0) System.exit(1);
  }
}
