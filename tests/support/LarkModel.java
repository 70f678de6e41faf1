import java.math.BigInteger;
import java.util.ArrayList;
import java.util.Arrays;
import java.util.HashMap;
import java.util.List;
import java.util.Map;
import java.util.TreeSet;
import java.util.regex.Matcher;
import java.util.regex.Pattern;

/**
 * A second reading of the document, written without regard to room or speed: maps, texts that are
 * read anew each time they are asked, whole copies for undo and image, and trying out for thought.
 */
public final class LarkModel {
  static final class Fault extends RuntimeException {
    private static final long serialVersionUID = 1L;
    final int kind;
    final int place;
    Fault(int kind, int place) { this.kind = kind; this.place = place; }
  }
  record Token(String text, int place, boolean known) {
    boolean number() { return known && Character.isDigit(text.charAt(0)); }
    int value() { return Integer.parseInt(text); }
  }

  /** Everything that is told, as values that copy easily. */
  static final class All {
    List<int[]> larks = new ArrayList<>();   // voice height top lost scared
    List<int[]> goods = new ArrayList<>();   // base by price
    List<int[]> traders = new ArrayList<>(); // purse ruined stock0..7
    int wind, day, state;
    List<int[]> book = new ArrayList<>();
    String[] texts = {"", "", "", ""};
    List<Integer> row = new ArrayList<>();
    Map<Integer, Integer> rates = new HashMap<>();
    List<int[]> ways = new ArrayList<>();
    List<int[]> sack = new ArrayList<>();

    static List<int[]> deep(List<int[]> from) {
      List<int[]> to = new ArrayList<>();
      for (int[] one : from) to.add(one.clone());
      return to;
    }
    All copy() {
      All a = new All();
      a.larks = deep(larks); a.goods = deep(goods); a.traders = deep(traders);
      a.wind = wind; a.day = day; a.state = state; a.book = deep(book);
      a.texts = texts.clone(); a.row = new ArrayList<>(row); a.rates = new HashMap<>(rates);
      a.ways = deep(ways); a.sack = deep(sack);
      return a;
    }
  }

  private All all = new All();
  private All image;
  private final List<All> past = new ArrayList<>();
  private String tape = "";
  private int fault = 0, place = -1;

  // ---- telling
  public int state(int v) { int was = all.state; all.state = v; past.clear(); return was; }
  private static boolean in(int v, int a, int b) { return a <= v && v <= b; }
  public int lark(int voice) {
    if (!in(voice, 0, 9) || all.larks.size() == 6) return -1;
    past.clear(); all.larks.add(new int[] {voice, 0, 0, 0, 0}); return all.larks.size() - 1;
  }
  public int good(int base) {
    if (!in(base, 1, 99) || all.goods.size() == 8) return -1;
    past.clear(); all.goods.add(new int[] {base, -1, base}); return all.goods.size() - 1;
  }
  public int trader(int purse) {
    if (!in(purse, 0, 9999) || all.traders.size() == 10) return -1;
    past.clear(); int[] t = new int[10]; t[0] = purse; all.traders.add(t); return all.traders.size() - 1;
  }
  public boolean set(int what, int who, int v) {
    int[][] bounds = {{0, 9}, {0, 999}, {0, 9}, {1, 99}, {1, 999}, {0, 9999}, {0, 9}};
    if (!in(what, 0, 6) || !in(v, bounds[what][0], bounds[what][1])) return false;
    if (what == 6) { all.wind = v; past.clear(); return true; }
    List<int[]> list = what <= 2 ? all.larks : what <= 4 ? all.goods : all.traders;
    int[] column = {0, 1, 4, 0, 2, 0};
    if (!in(who, 0, list.size() - 1)) return false;
    list.get(who)[column[what]] = v;
    past.clear();
    return true;
  }
  private void push(All before) { past.add(before); if (past.size() > 6) past.remove(0); }
  private static void write(All a, int what, int who, int much) {
    if (a.book.size() < 150) a.book.add(new int[] {a.day, what, who, much});
  }
  public boolean act(int what, int who, int v) {
    All before = all.copy();
    if (what == 0 || what == 1) {
      if (!in(who, 0, all.traders.size() - 1) || !in(v, 0, all.goods.size() - 1)) return false;
      int[] t = all.traders.get(who);
      int price = all.goods.get(v)[2];
      if (t[1] == 1) return false;
      if (what == 0 && (t[0] < price || t[2 + v] == 99)) return false;
      if (what == 1 && t[2 + v] == 0) return false;
      int sign = what == 0 ? 1 : -1;
      t[0] -= sign * price; t[2 + v] += sign;
      write(all, 2 + what, who, 1);
    } else if (what == 2 || what == 3) {
      if (!in(who, 0, all.larks.size() - 1)) return false;
      int[] l = all.larks.get(who);
      if (what == 2) { if (l[4] == 9) return false; l[4]++; }
      else { if (l[3] == 0) return false; l[3] = 0; l[1] = 0; }
    } else return false;
    push(before);
    return true;
  }
  public int days(int n) {
    if (!in(n, 1, 60) || all.day + n > 9999) return -1;
    int fell = 0;
    for (int i = 0; i < n; i++) { All before = all.copy(); fell += day(all, false); push(before); }
    return fell;
  }

  // ---- a day
  private int day(All a, boolean thought) {
    List<int[]> sink = a.book;
    if (thought) a.book = new ArrayList<>();
    int fell = 0;
    for (List<Token> l : lines(a.texts[1])) {
      if (l.get(1).value() != a.day) continue;
      String deed = l.get(2).text();
      int first = l.get(3).value();
      if (deed.equals("wind")) a.wind = first;
      if (deed.equals("boy")) a.larks.get(first)[4] = Math.min(9, a.larks.get(first)[4] + l.get(4).value());
      if (deed.equals("calm")) a.larks.get(first)[4] = 0;
      if (deed.equals("seek") && a.larks.get(first)[3] == 1) { a.larks.get(first)[3] = 0; a.larks.get(first)[1] = 0; }
    }
    List<int[]> sang = new ArrayList<>();
    for (int i = 0; i < a.larks.size(); i++) {
      int[] l = a.larks.get(i);
      if (l[3] == 1) continue;
      sang.add(l);
      l[1] = 0;
      boolean down = false;
      for (int m = 0; m < 30; m++) {
        l[1] = Math.min(999, l[1] + tells(a, "rises", i, -1, m));
        if (l[1] > l[2]) l[2] = l[1];
        int falls = tells(a, "falls", i, -1, m);
        if (thought) down = falls >= 500;
        else if (falls > 0) {
          a.state = (int) (1664525L * a.state + 1013904223L);
          down = ((a.state & 0xffffffffL) / 256) % 1000 < falls;
        }
        if (down) break;
      }
      if (down) { fell++; write(a, 0, i, l[1]); }
      else if (l[1] >= 500) { l[3] = 1; write(a, 1, i, l[1]); }
    }
    for (int[] l : sang) if (l[4] > 0) l[4]--;
    for (int g = 0; g < a.goods.size(); g++) {
      int[] good = a.goods.get(g);
      if (good[1] >= 0 && a.larks.get(good[1])[3] == 1) continue;
      good[2] = tells(a, "asks", good[1], g, 0);
    }
    for (List<Token> l : lines(a.texts[2])) {
      if (l.get(1).value() != a.day) continue;
      int who = l.get(3).value(), n = l.get(5).value(), g = l.get(7).value();
      int[] t = a.traders.get(who);
      if (t[1] == 1) continue;
      int many = 0;
      boolean buy = l.get(4).text().equals("buy");
      // one by one, as by hand
      while (many < n && (buy ? t[0] >= a.goods.get(g)[2] && t[2 + g] < 99 : t[2 + g] > 0)) {
        many++;
        t[0] += buy ? -a.goods.get(g)[2] : a.goods.get(g)[2];
        t[2 + g] += buy ? 1 : -1;
      }
      if (many > 0) write(a, buy ? 2 : 3, who, many);
    }
    for (int i = 0; i < a.traders.size() && !a.goods.isEmpty(); i++) {
      int[] t = a.traders.get(i);
      int stock = 0;
      for (int g = 0; g < 8; g++) stock += t[2 + g];
      int least = a.goods.stream().mapToInt(g -> g[2]).min().getAsInt();
      if (t[1] == 0 && stock == 0 && t[0] < least) { t[1] = 1; write(a, 4, i, t[0]); }
    }
    if (thought) a.book = sink;
    a.day++;
    return fell;
  }

  private static final Map<String, List<List<Token>>> SPLIT = new HashMap<>();
  private static List<List<Token>> lines(String text) {
    return SPLIT.computeIfAbsent(text, key -> {
      List<List<Token>> found = new ArrayList<>();
      List<Token> line = new ArrayList<>();
      for (Token t : tokens(key)) {
        if (t.text().equals(";")) { found.add(line); line = new ArrayList<>(); } else line.add(t);
      }
      return found;
    });
  }

  // ---- texts
  public int feed(int a, int b, int c, int d, int e) {
    if (tape.length() + 20 > 400) return -1;
    StringBuilder more = new StringBuilder(tape);
    for (int v : new int[] {a, b, c, d, e})
      for (byte one : java.nio.ByteBuffer.allocate(4).putInt(v).array()) more.append((char) (one & 255));
    tape = more.toString();
    return tape.length();
  }
  public boolean end(int n) {
    if (n < 0 || n > tape.length()) return false;
    tape = tape.substring(0, n);
    return true;
  }
  private static final Pattern TOKEN = Pattern.compile("[a-zA-Z]+|[0-9]+|[^ \n]", Pattern.DOTALL);
  private static List<Token> tokens(String text) {
    List<Token> found = new ArrayList<>();
    Matcher m = TOKEN.matcher(text);
    while (m.find()) {
      String t = m.group();
      boolean digits = t.charAt(0) >= '0' && t.charAt(0) <= '9';
      boolean known = digits ? t.length() <= 4 : t.matches("[a-z]+|[;+*/()<=>-]");
      found.add(new Token(t, m.start(), known));
    }
    return found;
  }

  private List<Token> read;
  private int pos, size;
  private String peek() { return pos < read.size() && read.get(pos).known() ? read.get(pos).text() : ""; }
  private boolean atNumber() { return pos < read.size() && read.get(pos).number(); }
  private int here() { return pos < read.size() ? read.get(pos).place() : size; }
  private void need(String... which) {
    if (!Arrays.asList(which).contains(peek())) throw new Fault(1, here());
    pos++;
  }
  private int number(int least, int most) {
    if (!atNumber()) throw new Fault(1, here());
    int v = read.get(pos).value();
    if (v < least || v > most) throw new Fault(2, here());
    pos++;
    return v;
  }
  public int text(int k) {
    String text = tape;
    tape = "";
    fault = 0;
    place = -1;
    if (k < 0 || k > 3) return -1;
    read = tokens(text);
    pos = 0;
    size = text.length();
    int count = 0;
    try {
      while (pos < read.size()) {
        int from = here();
        if (k == 0) need("rises", "falls", "asks"); else need(k == 3 ? "good" : "on");
        if (++count == 17) throw new Fault(3, from);
        if (k == 0) { sum(); if (peek().equals("when")) { pos++; any(0); } }
        else if (k == 1) dawn();
        else if (k == 2) {
          number(0, 999); need("trader"); number(0, all.traders.size() - 1);
          need("buy", "sell"); number(1, 99); need("of"); number(0, all.goods.size() - 1);
        } else { number(0, all.goods.size() - 1); need("by"); number(0, all.larks.size() - 1); }
        need(";");
      }
    } catch (Fault f) {
      fault = f.kind;
      place = f.place;
      return -1;
    }
    all.texts[k] = text;
    if (k != 0) past.clear();
    if (k == 3) {
      for (int[] g : all.goods) g[1] = -1;
      for (List<Token> l : lines(text)) all.goods.get(l.get(1).value())[1] = l.get(3).value();
    }
    return count;
  }
  private void dawn() {
    number(0, 999);
    String deed = peek();
    need("boy", "calm", "wind", "seek");
    if (deed.equals("wind")) { number(0, 9); return; }
    number(0, all.larks.size() - 1);
    if (deed.equals("boy")) number(1, 9);
  }
  private static final List<String> NAMES =
      List.of("voice", "height", "top", "scared", "wind", "minute", "base", "lost", "day");
  private void any(int open) { every(open); while (peek().equals("or")) { pos++; every(open); } }
  private void every(int open) { one(open); while (peek().equals("and")) { pos++; one(open); } }
  private void one(int open) {
    boolean not = peek().equals("not"), bracket = peek().equals("(");
    if ((not || bracket) && open == 8) throw new Fault(3, here());
    if (not) { pos++; one(open + 1); }
    else if (bracket) { pos++; any(open + 1); need(")"); }
    else { sum(); need("<", "=", ">"); sum(); }
  }
  private void sum() { term(); while (peek().equals("+") || peek().equals("-")) { pos++; term(); } }
  private void term() {
    unit();
    while (true) {
      if (peek().equals("*")) { pos++; unit(); }
      else if (peek().equals("/")) { pos++; number(1, 9999); }
      else return;
    }
  }
  private void unit() { if (atNumber()) pos++; else need(NAMES.toArray(new String[0])); }

  public int fault(int what) { return what == 0 ? fault : what == 1 ? place : -1; }

  // ---- what the law tells: the tokens of a line are gone through anew
  private static final class Teller {
    final List<Token> line;
    final Map<String, Integer> env;
    int pos = 1;
    Teller(List<Token> line, Map<String, Integer> env) { this.line = line; this.env = env; }
    String peek() { return pos < line.size() ? line.get(pos).text() : ""; }
    boolean took(String t) { if (!peek().equals(t)) return false; pos++; return true; }
    int sum() {
      int v = term();
      while (true) {
        if (took("+")) v += term(); else if (took("-")) v -= term(); else return v;
      }
    }
    int term() {
      int v = unit();
      while (true) {
        if (took("*")) v *= unit(); else if (took("/")) v /= unit(); else return v;
      }
    }
    int unit() {
      String t = line.get(pos++).text();
      return env.containsKey(t) ? env.get(t) : Integer.parseInt(t);
    }
    boolean any() { boolean v = every(); while (took("or")) { boolean w = every(); v = v || w; } return v; }
    boolean every() { boolean v = one(); while (took("and")) { boolean w = one(); v = v && w; } return v; }
    boolean one() {
      if (took("not")) return !one();
      if (took("(")) { boolean v = any(); pos++; return v; }
      int a = sum();
      String op = line.get(pos++).text();
      int b = sum();
      return op.equals("<") ? a < b : op.equals("=") ? a == b : a > b;
    }
  }
  private static int tells(All a, String word, int lark, int good, int minute) {
    int[] l = lark < 0 ? new int[5] : a.larks.get(lark);
    int base = good < 0 ? 0 : a.goods.get(good)[0];
    int v = word.equals("rises") ? 5 + l[0] : word.equals("falls") ? 100 + 100 * l[4] - 10 * l[0] : base + l[1] / 10;
    for (List<Token> line : lines(a.texts[0])) {
      if (!line.get(0).text().equals(word)) continue;
      Teller t = new Teller(line, Map.of("voice", l[0], "height", l[1], "top", l[2], "scared", l[4], "wind", a.wind,
          "minute", minute, "base", base, "lost", l[3], "day", a.day));
      int e = t.sum();
      if (t.took("when") && !t.any()) continue;
      v = e;
      break;
    }
    int least = word.equals("asks") ? 1 : 0, most = word.equals("rises") ? 99 : word.equals("falls") ? 1000 : 999;
    return v < least ? least : v > most ? most : v;
  }

  // ---- looking
  public int of(int lark, int what) {
    if (!in(lark, 0, all.larks.size() - 1)) return -1;
    if (in(what, 0, 4)) return all.larks.get(lark)[what];
    if (what == 5) return tells(all, "rises", lark, -1, 0);
    if (what == 6) return tells(all, "falls", lark, -1, 0);
    if (what != 7) return -1;
    int set = 0;
    for (int g = 0; g < all.goods.size(); g++) if (all.goods.get(g)[1] == lark) set += 1 << g;
    return set;
  }
  public int goodOf(int good, int what) {
    if (!in(good, 0, all.goods.size() - 1) || !in(what, 0, 4)) return -2;
    if (what <= 2) return all.goods.get(good)[what];
    if (what == 3) return tells(all, "asks", all.goods.get(good)[1], good, 0);
    return all.traders.stream().mapToInt(t -> t[2 + good]).sum();
  }
  public int who(int trader, int what) {
    if (!in(trader, 0, all.traders.size() - 1)) return -10;
    int[] t = all.traders.get(trader);
    if (what == 0 || what == 1) return t[what];
    if (what == 2) {
      int sum = t[0];
      for (int g = 0; g < all.goods.size(); g++) sum += t[2 + g] * all.goods.get(g)[2];
      return sum;
    }
    return in(what, 10, 9 + all.goods.size()) ? t[what - 8] : -10;
  }
  public int book(int i, int what) {
    return in(i, 0, all.book.size() - 1) && in(what, 0, 3) ? all.book.get(i)[what] : -10;
  }
  public int look(int what) {
    switch (what) {
      case 0: return all.larks.size();
      case 1: return all.goods.size();
      case 2: return all.traders.size();
      case 3: return all.wind;
      case 4: return flags(all.larks, 3);
      case 5: return flags(all.traders, 1);
      case 6: return all.day;
      case 7: return all.book.size();
      case 8: return all.state;
      case 9: case 10: case 11: case 12: return lines(all.texts[what - 9]).size();
      case 13: return past.size();
      default: return -100000;
    }
  }
  private static int flags(List<int[]> list, int column) {
    int set = 0;
    for (int i = 0; i < list.size(); i++) set |= list.get(i)[column] << i;
    return set;
  }

  // ---- in thought
  public int goes(int n, int what) {
    if (!in(n, 1, 60) || !in(what, 0, 3)) return -100;
    All a = all.copy();
    for (int i = 0; i < n; i++) day(a, true);
    if (what == 0) return a.goods.stream().mapToInt(g -> g[2]).sum();
    if (what == 1) return a.traders.stream().mapToInt(t -> t[0]).sum();
    return Integer.bitCount(what == 2 ? flags(a.larks, 3) : flags(a.traders, 1));
  }
  public int ruin(int trader) {
    if (!in(trader, 0, all.traders.size() - 1)) return -1;
    All a = all.copy();
    for (int i = 0; i <= 60; i++) {
      if (a.traders.get(trader)[1] == 1) return i;
      day(a, true);
    }
    return -1;
  }
  public int price(int v) {
    if (v == -1) { all.row.clear(); return 0; }
    if (!in(v, 1, 99) || all.row.size() == 14) return -1;
    all.row.add(v);
    return all.row.size();
  }
  /** The most gain by just so many trades from a price on; below 0 if there can't be so many. */
  private int gain(int from, int times, Map<Integer, Integer> memo) {
    if (times == 0) return 0;
    int key = from * 8 + times;
    if (memo.containsKey(key)) return memo.get(key);
    int best = -100000;
    for (int b = from; b < all.row.size(); b++)
      for (int s = b + 1; s < all.row.size(); s++)
        best = Math.max(best, all.row.get(s) - all.row.get(b) + gain(s, times - 1, memo));
    memo.put(key, best);
    return best;
  }
  public int trading(int k, int what) {
    if (!in(k, 1, 5) || !in(what, 0, 1)) return -1;
    int best = 0, times = 0;
    for (int j = 1; j <= k; j++) {
      int g = gain(0, j, new HashMap<>());
      if (g > best) { best = g; times = j; }
    }
    return what == 0 ? best : times;
  }
  public boolean change(int a, int b, int nd) {
    if (!in(a, 0, 3) || !in(b, 0, 3) || a == b || nd < 0 || nd > 99) return false;
    if (nd == 0) { all.rates.remove(a * 4 + b); return true; }
    if (nd / 10 == 0 || nd % 10 == 0) return false;
    all.rates.put(a * 4 + b, nd);
    return true;
  }
  public int round(int a, int what) {
    if (!in(a, 0, 3) || !in(what, 0, 1)) return -1;
    int[] others = {0, 1, 2, 3};
    List<int[]> trips = new ArrayList<>();
    for (int x : others) for (int y : others) for (int z : others) {
      trips.add(new int[] {a, x, a});
      trips.add(new int[] {a, x, y, a});
      trips.add(new int[] {a, x, y, z, a});
    }
    int[] best = null;
    for (int[] trip : trips) {
      TreeSet<Integer> seen = new TreeSet<>();
      for (int m : trip) seen.add(m);
      if (seen.size() != trip.length - 1) continue;
      int n = 1, d = 1;
      for (int i = 0; i + 1 < trip.length; i++) {
        int nd = all.rates.getOrDefault(trip[i] * 4 + trip[i + 1], 0);
        n *= nd / 10;
        d *= nd % 10;
      }
      if (n > 0 && (best == null || (long) n * best[1] > (long) d * best[0])) best = new int[] {n, d};
    }
    if (best == null) return -1;
    int g = BigInteger.valueOf(best[0]).gcd(BigInteger.valueOf(best[1])).intValue();
    return best[what] / g;
  }
  public int parts(int a, int b, int what) {
    if (!in(a, 1, 12) || !in(b, 1, 12) || a >= b || !in(what, 0, 4)) return -1;
    BigInteger n = BigInteger.valueOf(a), d = BigInteger.valueOf(b);
    List<Integer> found = new ArrayList<>();
    while (n.signum() > 0) {
      int i = 1;
      while (d.compareTo(n.multiply(BigInteger.valueOf(i))) > 0) i++;
      found.add(i);
      n = n.multiply(BigInteger.valueOf(i)).subtract(d);
      d = d.multiply(BigInteger.valueOf(i));
      BigInteger g = n.gcd(d);
      n = n.divide(g);
      d = d.divide(g);
    }
    return what == 0 ? found.size() : what <= found.size() ? found.get(what - 1) : -1;
  }
  public int loaves(int a, int n, int what) {
    if (!in(a, 1, 60) || !in(n, 1, 60) || !in(what, 0, 2)) return -1;
    TreeSet<Integer> cuts = new TreeSet<>();
    for (int i = 1; i <= a; i++) cuts.add(i * n);
    for (int i = 1; i <= n; i++) cuts.add(i * a);
    int g = BigInteger.valueOf(a).gcd(BigInteger.valueOf(n)).intValue();
    return what == 0 ? cuts.size() : what == 1 ? a / g : n / g;
  }
  private static int sticksOf(int v) {
    int sum = 0;
    for (char c : Integer.toString(v).toCharArray()) sum += "6255456376".charAt(c - '0') - '0';
    return sum;
  }
  private static final Map<Integer, Integer> LEAST = new HashMap<>();
  public int sticks(int v, int what) {
    if (what == 0 && in(v, 0, 99999)) return sticksOf(v);
    if (what != 1 || !in(v, 2, 42)) return -1;
    if (LEAST.isEmpty()) for (int i = 0; i < 1000000; i++) LEAST.putIfAbsent(sticksOf(i), i);
    return LEAST.get(v);
  }
  private static final Map<Integer, Integer> OTHER_TWOS = new HashMap<>();
  public int twos(int n, int what) {
    if (!in(n, -9999, 9999) || !in(what, 0, 1)) return -1;
    if (OTHER_TWOS.isEmpty()) for (int bits = 0; bits < 1 << 17; bits++) {
      int v = 0, times = 1;
      for (int i = 0; i < 17; i++, times *= -2) if ((bits >> i & 1) == 1) v += times;
      OTHER_TWOS.put(v, bits);
    }
    int bits = OTHER_TWOS.get(n);
    return what == 1 ? bits : Integer.toBinaryString(bits).length();
  }
  private static final String[] WORDS = ("zero one two three four five six seven eight nine ten eleven twelve thirteen "
      + "fourteen fifteen sixteen seventeen eighteen nineteen").split(" ");
  private static final String[] TENS = "- ten twenty thirty forty fifty sixty seventy eighty ninety".split(" ");
  private static String inWords(int n) {
    if (n < 20) return WORDS[n];
    if (n < 100) return TENS[n / 10] + (n % 10 == 0 ? "" : inWords(n % 10));
    return inWords(n / 100) + "hundred" + (n % 100 == 0 ? "" : inWords(n % 100));
  }
  public int words(int n, int what) {
    if (!in(n, 0, 999) || !in(what, 0, 1)) return -1;
    if (what == 0) return inWords(n).length();
    int best = n;
    for (int i = n; i >= 0; i--) if (inWords(i).length() >= inWords(best).length()) best = i;
    return best;
  }
  public int window(int k, int what) {
    if (!in(k, 1, 14) || !in(what, 0, 1)) return -1;
    int best = 0, where = -1;
    for (int i = all.row.size() - k; i >= 0; i--) {
      int sum = all.row.subList(i, i + k).stream().mapToInt(x -> x).sum();
      if (sum >= best) { best = sum; where = i; }
    }
    return what == 0 ? best : where;
  }
  public int row(int what) {
    int[] r = all.row.stream().mapToInt(x -> x).toArray();
    if (what == 0) { Arrays.sort(r); return r.length == 0 ? -1 : r[(r.length + 1) / 2 - 1]; }
    if (!in(what, 1, 4)) return -1;
    int couples = 0, records = 0, hats = 0, longest = 0;
    for (int i = 0; i < r.length; i++) {
      boolean record = true;
      for (int j = 0; j < i; j++) { if (r[j] > r[i]) couples++; if (r[j] >= r[i]) record = false; }
      if (record) records++;
      if (i > 0) hats += Math.max(r[i], r[i - 1]) - Math.min(r[i], r[i - 1]);
      int end = i + 1;
      while (end < r.length && r[end] > r[end - 1]) end++;
      longest = Math.max(longest, end - i);
    }
    return new int[] {0, couples, records, hats, longest}[what];
  }
  public int fifths(int n, int what) {
    if (!in(n, -12, 12) || !in(what, 0, 1)) return -1;
    long a = 1, b = 1;
    for (int i = 0; i < n; i++) { a *= 3; b *= 2; }
    for (int i = 0; i > n; i--) { a *= 2; b *= 3; }
    while (a >= 2 * b) b *= 2;
    while (a < b) a *= 2;
    long g = BigInteger.valueOf(a).gcd(BigInteger.valueOf(b)).longValue();
    return (int) ((what == 0 ? a : b) / g);
  }
  public int way(int a, int b) {
    if (a == -1) { all.ways.clear(); return 0; }
    if (!in(a, 0, 7) || !in(b, 0, 7) || a == b || all.ways.size() == 14) return -1;
    all.ways.add(new int[] {a, b});
    return all.ways.size();
  }
  public int caught(int a, int b) {
    if (!in(a, 0, 7) || !in(b, 0, 7)) return -1;
    boolean[][] near = new boolean[8][8];
    for (int i = 0; i < 8; i++) near[i][i] = true;
    for (int[] w : all.ways) near[w[0]][w[1]] = near[w[1]][w[0]] = true;
    // by values that are made better till none changes
    int far = 1000;
    int[][] left = new int[8][8];
    for (int h = 0; h < 8; h++) for (int l = 0; l < 8; l++) left[h][l] = h == l ? 0 : far;
    for (int times = 0; times < 70; times++) {
      int[][] next = new int[8][8];
      for (int h = 0; h < 8; h++) for (int l = 0; l < 8; l++) {
        if (h == l) continue;
        int best = far;
        for (int to = 0; to < 8; to++) {
          if (!near[h][to]) continue;
          int worst = 0;
          if (to != l) for (int flee = 0; flee < 8; flee++) if (near[l][flee]) worst = Math.max(worst, left[to][flee]);
          best = Math.min(best, Math.min(far, worst + 1));
        }
        next[h][l] = best;
      }
      left = next;
    }
    return left[a][b] >= far ? -1 : left[a][b];
  }
  public int sack(int weight, int worth) {
    if (weight == -1) { all.sack.clear(); return 0; }
    if (!in(weight, 1, 30) || !in(worth, 1, 99) || all.sack.size() == 8) return -1;
    all.sack.add(new int[] {weight, worth});
    return all.sack.size();
  }
  public int packed(int w, int what) {
    if (!in(w, 0, 99) || !in(what, 0, 2)) return -1;
    List<int[]> order = new ArrayList<>(all.sack);
    order.sort((x, y) -> Integer.compare(y[1] * x[0], x[1] * y[0]));
    int whole = 0, n = 0, d = 1;
    boolean open = true;
    for (int[] one : order) {
      if (!open) break;
      if (one[0] <= w) { w -= one[0]; n += one[1]; whole++; }
      else { n = n * one[0] + one[1] * w; d = one[0]; open = false; }
    }
    int g = Math.max(1, BigInteger.valueOf(n).gcd(BigInteger.valueOf(d)).intValue());
    return what == 0 ? n / g : what == 1 ? d / g : whole;
  }
  /** Ways to share n into parts of most at most, the greatest first. */
  private static int share(int n, int most, boolean unlike, boolean odd, Map<Integer, Integer> memo) {
    if (n == 0) return 1;
    Integer known = memo.get(n * 100 + most);
    if (known != null) return known;
    int sum = 0;
    for (int p = Math.min(n, most); p >= 1; p--)
      if (!odd || p % 2 == 1) sum += share(n - p, unlike ? p - 1 : p, unlike, odd, memo);
    memo.put(n * 100 + most, sum);
    return sum;
  }
  public int shares(int n, int what) {
    if (!in(n, 1, 60) || !(what == 0 || what == 1 || in(what, 101, 160))) return -1;
    return share(n, what < 2 ? n : what - 100, what == 0, what == 1, new HashMap<>());
  }
  private static boolean wins(int h, int s, int k, int last, Map<Integer, Boolean> memo) {
    return move(h, s, k, last, memo) > 0;
  }
  private static int move(int h, int s, int k, int last, Map<Integer, Boolean> memo) {
    for (int up = 1; up <= k; up++) {
      if (up == last || h + up >= s) continue;
      int key = (h + up) * 10 + up;
      Boolean other = memo.get(key);
      if (other == null) { other = wins(h + up, s, k, up, memo); memo.put(key, other); }
      if (!other) return up;
    }
    return -1;
  }
  public int game(int h, int s, int k) {
    if (!in(h, 0, 99) || !in(s, 1, 100) || s <= h || !in(k, 2, 9)) return -1;
    return move(h, s, k, 0, new HashMap<>());
  }

  // ---- going back
  public boolean undo() {
    if (past.isEmpty()) return false;
    All was = past.remove(past.size() - 1);
    // what was told since without forgetting stays told
    was.texts = all.texts;
    was.row = all.row;
    was.rates = all.rates;
    was.ways = all.ways;
    was.sack = all.sack;
    all = was;
    return true;
  }
  public boolean image(boolean taken) {
    if (taken) { image = all.copy(); return true; }
    if (image == null) return false;
    all = image.copy();
    past.clear();
    return true;
  }
}
