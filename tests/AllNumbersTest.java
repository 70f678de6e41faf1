/** What is asked of numbers alone: every input within the bounds and around them, against the model. */
public final class AllNumbersTest {
  public static void main(String[] args) {
    Check c = new Check();
    LarkModel m = new LarkModel();
    for (int a = -1; a <= 14; a++)
      for (int b = -1; b <= 14; b++)
        for (int w = -1; w <= 6; w++) c.due("parts " + a + " " + b + " " + w, fresh().parts(a, b, w), m.parts(a, b, w));
    LarkExchange x = fresh();
    for (int a = -1; a <= 62; a++)
      for (int n = -1; n <= 62; n++)
        for (int w = -1; w <= 3; w++) c.due("loaves " + a + " " + n + " " + w, x.loaves(a, n, w), m.loaves(a, n, w));
    for (int v = -2; v <= 100002; v++) c.due("sticks " + v, x.sticks(v, 0), m.sticks(v, 0));
    for (int v = -2; v <= 50; v++) for (int w = -1; w <= 2; w++) c.due("sticks of " + v, x.sticks(v, w), m.sticks(v, w));
    for (int n = -10001; n <= 10001; n++) for (int w = -1; w <= 2; w++) c.due("twos " + n + " " + w, x.twos(n, w), m.twos(n, w));
    for (int n = -2; n <= 1002; n++) for (int w = -1; w <= 2; w++) c.due("words " + n + " " + w, x.words(n, w), m.words(n, w));
    for (int n = -15; n <= 15; n++) for (int w = -1; w <= 2; w++) c.due("fifths " + n + " " + w, x.fifths(n, w), m.fifths(n, w));
    for (int n = -2; n <= 63; n++) for (int w = -2; w <= 163; w++) c.due("shares " + n + " " + w, x.shares(n, w), m.shares(n, w));
    for (int h = -1; h <= 101; h++)
      for (int s = -1; s <= 102; s++)
        for (int k = 0; k <= 11; k++) c.due("game " + h + " " + s + " " + k, x.game(h, s, k), m.game(h, s, k));
    int[] far = {Integer.MIN_VALUE, Integer.MAX_VALUE};
    for (int v : far) {
      c.due("far parts", x.parts(v, 5, 0) + x.parts(1, v, 0) + x.parts(1, 2, v), -3);
      c.due("far loaves", x.loaves(v, 5, 0) + x.loaves(1, v, 0) + x.loaves(1, 2, v), -3);
      c.due("far sticks", x.sticks(v, 0) + x.sticks(v, 1) + x.sticks(5, v), -3);
      c.due("far twos", x.twos(v, 0) + x.twos(5, v), -2);
      c.due("far words", x.words(v, 0) + x.words(5, v), -2);
      c.due("far fifths", x.fifths(v, 0) + x.fifths(5, v), -2);
      c.due("far shares", x.shares(v, 0) + x.shares(5, v), -2);
      c.due("far game", x.game(v, 5, 2) + x.game(0, v, 2) + x.game(0, 5, v), -3);
    }
    c.ends();
  }
  private static LarkExchange fresh() { return new LarkExchange(); }
}
