import java.util.ArrayList;
import java.util.List;
import java.util.Random;

/** Runs of random calls, told to the class and to the second reading of the document alike. */
public final class AgainstModelTest {
  private static final int RUNS = 1500;
  private static final int CALLS = 500;

  private final Random random;
  private final LarkExchange x = new LarkExchange();
  private final LarkModel m = new LarkModel();
  private final List<String> told = new ArrayList<>();
  private boolean wrong = false;

  private AgainstModelTest(long seed) { random = new Random(seed); }

  private void same(String call, int got, int due) {
    told.add(call + " -> " + got);
    if (got != due) {
      wrong = true;
      System.out.println(call + " answered " + got + ", the model says " + due);
    }
  }
  private static int bit(boolean b) { return b ? 1 : 0; }
  private int below(int n) { return random.nextInt(n); }
  private String pick(String... of) { return of[below(of.length)]; }
  /** Mostly within bounds, at times just beyond them or far away. */
  private int about(int least, int most) {
    int kind = below(30);
    if (kind == 0) return least - 1;
    if (kind == 1) return most + 1;
    if (kind == 2) return pick("a", "b").equals("a") ? Integer.MIN_VALUE : Integer.MAX_VALUE;
    if (kind == 3) return least;
    if (kind == 4) return most;
    return least + below(most - least + 1);
  }

  // ---- texts
  private String space() { return below(12) == 0 ? pick("\n", "  ", " \n") : " "; }
  private String unit() {
    return below(2) == 0 ? Integer.toString(below(below(3) == 0 ? 10000 : 12))
        : pick("voice", "height", "top", "scared", "wind", "minute", "base", "lost", "day");
  }
  private String sum() {
    StringBuilder s = new StringBuilder(unit());
    for (int n = below(4); n > 0; n--) {
      int kind = below(4);
      if (kind == 0) s.append("/").append(below(40) == 0 ? 0 : 1 + below(20));
      else s.append(pick("+", "-", "*")).append(unit());
    }
    return s.toString();
  }
  private String condition(int deep) {
    int kind = below(deep > 9 ? 3 : 8);
    if (kind < 3) return sum() + pick("<", "=", ">") + sum();
    if (kind == 3) return "not " + condition(deep + 1);
    if (kind == 4) return "(" + condition(deep + 1) + ")";
    if (kind == 5) return condition(deep + 2) + " or " + condition(deep + 2);
    if (kind == 6) return condition(deep + 2) + " and " + condition(deep + 2);
    return "not not(" + condition(deep + 3) + ")";
  }
  private String line(int k) {
    String sp = space();
    if (k == 0) {
      String word = pick("rises", "falls", "asks");
      String e = below(3) == 0 ? sum() : word.equals("rises") ? pick("voice*5", "20+minute", "99", "30", "height/3+9")
          : word.equals("falls") ? pick("minute*10", "0", "height-500", "500*scared", "wind*9+20") : pick("base*2", "height/4", "top-height+base");
      return word + sp + e + (below(3) == 0 ? "" : " when " + condition(below(3))) + ";";
    }
    int day = below(4) == 0 ? about(0, 999) & 1023 : m.look(6) + below(5);
    int lark = below(20) == 0 ? m.look(0) : below(Math.max(1, m.look(0)));
    int good = below(20) == 0 ? m.look(1) : below(Math.max(1, m.look(1)));
    if (k == 3) return "good" + sp + good + " by " + lark + sp + ";";
    if (k == 1) {
      String deed = pick("boy", "calm", "wind", "seek", "seek");
      String rest = deed.equals("wind") ? "" + (about(0, 9) & 15) : lark + (deed.equals("boy") ? " " + (about(1, 9) & 15) : "");
      return "on " + day + sp + deed + " " + rest + ";";
    }
    int trader = below(20) == 0 ? m.look(2) : below(Math.max(1, m.look(2)));
    return "on " + day + " trader" + sp + trader + pick(" buy ", " buy ", " sell ") + (about(1, 99) & 127) + " of " + good + ";";
  }
  private String text(int k) {
    StringBuilder s = new StringBuilder();
    int lines = below(25) == 0 ? 15 + below(3) : below(6);
    for (int i = 0; i < lines; i++) s.append(lines > 8 && k == 0 ? "asks " + i + ";" : line(k)).append(below(3) == 0 ? "" : space());
    if (below(4) == 0 && s.length() > 0) {
      int at = below(s.length());
      String odd = pick("(", ")", ";", "x", "9", "12345", "Rises", "\t", "" + (char) 233, "not ", " ", "", "=", ".", "0");
      s.replace(at, Math.min(s.length(), at + below(3)), odd);
    }
    return s.toString();
  }
  private void tells(String s, int k) {
    for (int i = 0; i < s.length(); i += 20) {
      int[] v = new int[5];
      for (int j = 0; j < 20; j++) {
        int c = i + j < s.length() ? s.charAt(i + j) : ' ';
        v[j / 4] |= c << 24 - 8 * (j % 4);
      }
      same("feed", x.feed(v[0], v[1], v[2], v[3], v[4]), m.feed(v[0], v[1], v[2], v[3], v[4]));
    }
    if (below(30) != 0) same("end", bit(x.end(s.length())), bit(m.end(s.length())));
    told.add("text " + k + ": " + s);
    same("text " + k, x.text(k), m.text(k));
    same("fault 0", x.fault(0), m.fault(0));
    same("fault 1", x.fault(1), m.fault(1));
  }

  // ---- calls
  private void one() {
    int a = below(8), b = below(8), c = about(0, 9);
    switch (below(24)) {
      case 0: { int v = about(0, 9); same("lark " + v, x.lark(v), m.lark(v)); break; }
      case 1: { int v = about(1, 99); same("good " + v, x.good(v), m.good(v)); break; }
      case 2: { int v = about(0, 9999) % (1 + below(9999)); same("trader " + v, x.trader(v), m.trader(v)); break; }
      case 3: {
        int what = about(0, 6), who = about(0, 5);
        int v = what == 1 || what == 4 ? about(1, 999) : what == 5 ? about(0, 9999) : about(0, 9);
        if (below(3) != 0) break;
        same("set " + what + " " + who + " " + v, bit(x.set(what, who, v)), bit(m.set(what, who, v)));
        break;
      }
      case 4: case 5: case 6: case 7: {
        int what = about(0, 3), who = about(0, 6), v = about(0, 5);
        same("act " + what + " " + who + " " + v, bit(x.act(what, who, v)), bit(m.act(what, who, v)));
        break;
      }
      case 8: case 9: {
        int n = below(20) == 0 ? about(1, 60) : 1 + below(3);
        same("days " + n, x.days(n), m.days(n));
        break;
      }
      case 10: case 11: { int k = below(4); tells(text(k), below(40) == 0 ? about(0, 3) : k); break; }
      case 12: { int n = about(1, below(6) == 0 ? 60 : 5), w = about(0, 3); same("goes " + n + " " + w, x.goes(n, w), m.goes(n, w)); break; }
      case 13: { if (below(4) == 0) same("ruin " + a, x.ruin(a), m.ruin(a)); break; }
      case 14: case 15: same("undo", bit(x.undo()), bit(m.undo())); break;
      case 16: { boolean t = below(3) == 0; if (below(4) == 0) same("image " + t, bit(x.image(t)), bit(m.image(t))); break; }
      case 17: { int v = below(20) == 0 ? -1 : about(1, 99); same("price " + v, x.price(v), m.price(v)); break; }
      case 18: { int v = below(6) == 0 ? 0 : about(11, 99); same("change", bit(x.change(a % 5, b % 5, v)), bit(m.change(a % 5, b % 5, v))); break; }
      case 19: { int v = below(20) == 0 ? -1 : a; int w = about(0, 7); same("way " + v + " " + w, x.way(v, w), m.way(v, w)); break; }
      case 20: { int v = below(20) == 0 ? -1 : about(1, 30), w = about(1, 99); same("sack " + v + " " + w, x.sack(v, w), m.sack(v, w)); break; }
      case 21: { if (below(9) == 0) { int v = random.nextInt(); same("state " + v, x.state(v), m.state(v)); } break; }
      case 22: thinks(c); break;
      default: looks();
    }
  }
  private void thinks(int c) {
    int a = below(8), b = below(8), k = about(1, 14), w = about(0, 1), big = below(100);
    same("trading", x.trading(k / 2, w), m.trading(k / 2, w));
    same("round", x.round(a, w), m.round(a, w));
    same("parts", x.parts(k, k + b, a), m.parts(k, k + b, a));
    same("loaves", x.loaves(big, k + b, w), m.loaves(big, k + b, w));
    same("window", x.window(k, w), m.window(k, w));
    same("row", x.row(c), m.row(c));
    same("caught " + a + " " + b, x.caught(a, b), m.caught(a, b));
    same("packed " + big, x.packed(big, c), m.packed(big, c));
    same("game", x.game(big, big + k, c), m.game(big, big + k, c));
    same("shares", x.shares(big, 100 + k), m.shares(big, 100 + k));
  }
  private void looks() {
    int who = about(0, 9), what = about(0, 17), line = about(0, 150);
    same("of " + who + " " + what, x.of(who, what), m.of(who, what));
    same("goodOf " + who + " " + what, x.goodOf(who, what), m.goodOf(who, what));
    same("who " + who + " " + what, x.who(who, what), m.who(who, what));
    same("book " + line + " " + what, x.book(line, what), m.book(line, what));
    same("look " + what, x.look(what), m.look(what));
  }
  private void looksAtAll() {
    for (int i = -1; i <= 14; i++) same("look " + i, x.look(i), m.look(i));
    for (int i = 0; i < 6; i++) for (int w = 0; w < 8; w++) same("of " + i + " " + w, x.of(i, w), m.of(i, w));
    for (int i = 0; i < 8; i++) for (int w = 0; w < 5; w++) same("goodOf " + i + " " + w, x.goodOf(i, w), m.goodOf(i, w));
    for (int i = 0; i < 10; i++) for (int w = 0; w < 19; w++) same("who " + i + " " + w, x.who(i, w), m.who(i, w));
    for (int i = 0; i < 151; i++) for (int w = 0; w < 4; w++) same("book " + i + " " + w, x.book(i, w), m.book(i, w));
  }

  public static void main(String[] args) {
    long first = args.length > 0 ? Long.parseLong(args[0]) : 0;
    int runs = args.length > 1 ? Integer.parseInt(args[1]) : RUNS;
    for (long seed = first; seed < first + runs; seed++) {
      AgainstModelTest t = new AgainstModelTest(seed);
      if (seed % 2 == 0) for (int i = 0; i < 3; i++) { t.x.lark(i * 3); t.m.lark(i * 3); t.x.good(9 + i); t.m.good(9 + i); t.x.trader(300); t.m.trader(300); }
      for (int i = 0; i < CALLS && !t.wrong; i++) t.one();
      if (!t.wrong) t.looksAtAll();
      if (t.wrong) {
        System.out.println("seed " + seed + "; what was told ahead of it:");
        for (String s : t.told.subList(Math.max(0, t.told.size() - 60), t.told.size())) System.out.println("  " + s);
        System.exit(1);
      }
    }
    System.out.println(runs + " random runs answer as the model does");
  }
}
