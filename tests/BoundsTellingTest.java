/** The boundary cases of promises 1 to 7, sentence by sentence: what is told, and what is done by hand. */
public final class BoundsTellingTest {
  private static final Check c = new Check();
  private static final int FAR_DOWN = Integer.MIN_VALUE;
  private static final int FAR_UP = Integer.MAX_VALUE;

  private static void p1() {
    LarkExchange x = new LarkExchange();
    c.sentence(1, "A heath without larks.");
    for (int w = 0; w <= 5; w++) c.due("look " + w, x.look(w), 0);
    for (int w = -1; w <= 8; w++) c.due("no lark " + w, x.of(0, w), -1);
    for (int w = -1; w <= 5; w++) c.due("no good " + w, x.goodOf(0, w), -2);
    for (int w = -1; w <= 18; w++) c.due("no trader " + w, x.who(0, w), -10);
    for (int w = -1; w <= 4; w++) c.due("no line " + w, x.book(0, w), -10);
    c.due("no fault", x.fault(0), 0);
    c.due("no place", x.fault(1), -1);
    c.due("nothing to undo", x.undo(), false);
    c.due("no image", x.image(false), false);
    c.due("an empty tape", x.end(1), false);
    for (int w = 0; w <= 4; w++) c.due("no row " + w, x.row(w), w == 0 ? -1 : 0);
    c.due("no changes", x.round(0, 0), -1);
    c.due("no ways", x.caught(0, 1), -1);
    c.due("nothing for the sack", x.packed(99, 2), 0);
    c.sentence(1, "STATE of draws (an int, 0 at first)");
    c.due("STATE", x.look(8), 0);
    c.sentence(1, "WIND 0 .. 9 (0 at first), DAY 0 .. 9999 (0 at first).");
    c.due("WIND", x.look(3), 0);
    c.due("DAY", x.look(6), 0);
    c.sentence(1, "TEXTS (empty at first).");
    for (int w = 9; w <= 12; w++) c.due("lines " + w, x.look(w), 0);
    c.sentence(1, "The constants: `NONE = -1`: None.");
    c.due("NONE", LarkExchange.NONE, -1);
    c.sentence(1, "A heath without larks.");
    c.due("no book", x.look(7), 0);
    c.due("nothing done", x.look(13), 0);
    c.due("a day on it", x.days(1), 0);
    c.due("its prices", x.goes(60, 0), 0);
    c.due("its purses", x.goes(60, 1), 0);
    c.due("its lost", x.goes(60, 2), 0);
    c.due("its ruined", x.goes(60, 3), 0);
    c.due("no ruin", x.ruin(0), -1);
    LarkExchange other = new LarkExchange();
    other.lark(1);
    other.state(5);
    c.due("objects are apart", x.look(0) + x.look(8), 0);
  }

  /** A lark that falls in its first minute, if a draw from that STATE is below falls. */
  private static int fellAt(int state, int falls) {
    LarkExchange x = Check.town(1, 0, 0);
    Check.text(x, 0, "falls " + falls + " when minute = 0; falls 0;");
    x.state(state);
    return x.days(1);
  }
  private static void p2() {
    LarkExchange x = new LarkExchange();
    c.sentence(2, "STATE is told: what it was.");
    int[] told = {FAR_UP, FAR_DOWN, -1, 1, 0};
    int was = 0;
    for (int v : told) {
      c.due("what it was ahead of " + v, x.state(v), was);
      c.due("is " + v, x.look(8), v);
      was = v;
    }
    c.sentence(2, "it becomes 1664525 times itself + 1013904223 (ints, which wrap)");
    int[] states = {0, 1, -1, FAR_UP, FAR_DOWN, 1013904223};
    for (int v : states) {
      LarkExchange y = Check.town(1, 0, 0);
      Check.text(y, 0, "falls 1 when minute = 0; falls 0;");
      y.state(v);
      y.days(1);
      c.due("behind one draw from " + v, y.look(8), v * 1664525 + 1013904223);
    }
    c.sentence(2, "then it is its highest 24 bits (without sign) modulo m.");
    int[] nexts = {0, 255, 256, 999 << 8, 1000 << 8, 1001 << 8, FAR_UP, FAR_DOWN, -1, -256};
    int[] draws = {0, 0, 1, 999, 0, 1, 607, 608, 215, 215};
    for (int i = 0; i < nexts.length; i++) {
      int state = Check.stateAhead(nexts[i]);
      c.due("not below " + draws[i] + " at " + nexts[i], fellAt(state, draws[i]), 0);
      c.due("below " + (draws[i] + 1) + " at " + nexts[i], fellAt(state, draws[i] + 1), 1);
    }
  }

  private static void p3() {
    LarkExchange x = new LarkExchange();
    c.sentence(3, "VOICE 0 .. 9");
    int[] beyond = {-1, 10, FAR_DOWN, FAR_UP};
    for (int v : beyond) c.due("voice " + v, x.lark(v), -1);
    c.due("none came", x.look(0), 0);
    c.due("voice 0", x.lark(0), 0);
    c.due("voice 9", x.lark(9), 1);
    c.due("the least voice", x.of(0, 0), 0);
    c.due("the greatest voice", x.of(1, 0), 9);
    c.sentence(3, "LARKS 0 .. 5 as they come");
    for (int i = 2; i < 6; i++) c.due("number", x.lark(i), i);
    for (int i = 2; i < 6; i++) c.due("its own voice", x.of(i, 0), i);
    c.sentence(3, "NONE if one can't be, or there are six.");
    c.due("a seventh", x.lark(5), -1);
    c.due("a seventh again", x.lark(0), -1);
    c.due("six still", x.look(0), 6);
    c.due("the last is as it was", x.of(5, 0), 5);
    c.sentence(3, "HEIGHT 0 .. 999 (of its latest dawn, 0 at first), TOP 0 .. 999 (the greatest HEIGHT there was, 0 at first), LOST 0, 1 (0 at first), SCARED 0 .. 9 (0 at first)");
    for (int i = 0; i < 6; i++) for (int w = 1; w <= 4; w++) c.due("at first " + w, x.of(i, w), 0);
  }

  private static void p4() {
    LarkExchange x = new LarkExchange();
    c.sentence(4, "BASE 1 .. 99");
    int[] beyond = {0, -1, 100, FAR_DOWN, FAR_UP};
    for (int v : beyond) c.due("base " + v, x.good(v), -1);
    c.due("none came", x.look(1), 0);
    c.due("base 1", x.good(1), 0);
    c.due("base 99", x.good(99), 1);
    c.sentence(4, "GOODS 0 .. 7 as they come");
    for (int i = 2; i < 8; i++) c.due("number", x.good(10 * i), i);
    c.sentence(4, "NONE if one can't be, or there are eight.");
    c.due("a ninth", x.good(5), -1);
    c.due("eight still", x.look(1), 8);
    c.due("the last is as it was", x.goodOf(7, 0), 70);
    c.sentence(4, "BY a LARK (by GOODS; NONE at first), PRICE (BASE at first)");
    int[] bases = {1, 99, 20, 30, 40, 50, 60, 70};
    for (int i = 0; i < 8; i++) {
      c.due("base", x.goodOf(i, 0), bases[i]);
      c.due("by none", x.goodOf(i, 1), -1);
      c.due("price", x.goodOf(i, 2), bases[i]);
    }
    LarkExchange y = Check.town(1, 1, 0);
    Check.text(y, 3, "good 0 by 0;");
    y.good(44);
    c.due("one that comes behind BOUND", y.goodOf(1, 1), -1);
    c.due("the one that is bound", y.goodOf(0, 1), 0);
  }

  private static void p5() {
    LarkExchange x = Check.town(0, 8, 0);
    c.sentence(5, "PURSE (an int, 0 .. 9999 at first)");
    int[] beyond = {-1, 10000, FAR_DOWN, FAR_UP};
    for (int v : beyond) c.due("purse " + v, x.trader(v), -1);
    c.due("none came", x.look(2), 0);
    c.due("purse 0", x.trader(0), 0);
    c.due("purse 9999", x.trader(9999), 1);
    c.due("the least", x.who(0, 0), 0);
    c.due("the greatest", x.who(1, 0), 9999);
    c.sentence(5, "TRADERS 0 .. 9 as they come");
    for (int i = 2; i < 10; i++) c.due("number", x.trader(i), i);
    for (int i = 2; i < 10; i++) c.due("its own purse", x.who(i, 0), i);
    c.sentence(5, "NONE if one can't be, or there are ten.");
    c.due("an eleventh", x.trader(5), -1);
    c.due("ten still", x.look(2), 10);
    c.due("the last is as it was", x.who(9, 0), 9);
    c.sentence(5, "STOCK of each GOOD 0 .. 99 (0 at first), RUINED 0, 1 (0 at first)");
    for (int i = 0; i < 10; i++) {
      c.due("not ruined", x.who(i, 1), 0);
      for (int g = 0; g < 8; g++) c.due("stock", x.who(i, 10 + g), 0);
    }
    x.set(4, 0, 50);
    for (int i = 0; i < 3; i++) x.act(0, 1, 0);
    x.set(4, 0, 999);
    for (int i = 0; i < 3; i++) x.act(1, 1, 0);
    c.due("later a purse may be above 9999", x.who(1, 0), 9999 + 3 * 949);
  }

  private static final int[] LEAST = {0, 0, 0, 1, 1, 0, 0};
  private static final int[] MOST = {9, 999, 9, 99, 999, 9999, 9};
  private static int value(LarkExchange x, int what, int who) {
    switch (what) {
      case 0: return x.of(who, 0);
      case 1: return x.of(who, 1);
      case 2: return x.of(who, 4);
      case 3: return x.goodOf(who, 0);
      case 4: return x.goodOf(who, 2);
      case 5: return x.who(who, 0);
      default: return x.look(3);
    }
  }
  private static void p6() {
    LarkExchange x = Check.town(3, 3, 3);
    c.sentence(6, "What 0 VOICE, 1 HEIGHT, 2 SCARED of LARK who, 3 BASE, 4 PRICE (1 .. 999) of GOOD who, 5 PURSE (0 .. 9999) of TRADER who, 6 WIND (who not asked): true");
    for (int w = 0; w <= 6; w++) {
      int[] fits = {LEAST[w], LEAST[w] + 1, MOST[w] - 1, MOST[w]};
      for (int v : fits) {
        c.due("set " + w + " to " + v, x.set(w, 1, v), true);
        c.due("it is " + v, value(x, w, 1), v);
      }
    }
    for (int w = 0; w <= 5; w++) c.due("another one's stays " + w, value(x, w, 2), w == 0 ? 3 : w == 5 ? 100 : w > 2 ? 10 : 0);
    c.sentence(6, "WIND (who not asked)");
    int[] anyone = {-1, 3, FAR_DOWN, FAR_UP};
    for (int who : anyone) c.due("wind by " + who, x.set(6, who, 4), true);
    c.due("the wind", x.look(3), 4);
    c.sentence(6, "false if one can't be, or another what.");
    x.set(6, 0, MOST[6]);
    for (int w = 0; w <= 6; w++) {
      int[] beyond = {LEAST[w] - 1, MOST[w] + 1, FAR_DOWN, FAR_UP};
      for (int v : beyond) c.due("set " + w + " to " + v, x.set(w, 1, v), false);
      c.due("it stays " + w, value(x, w, 1), MOST[w]);
      int[] none = {-1, 3, FAR_DOWN, FAR_UP};
      for (int who : none) c.due("set " + w + " of " + who, x.set(w, who, MOST[w]), w == 6);
    }
    int[] others = {-1, 7, FAR_DOWN, FAR_UP};
    for (int w : others) c.due("what " + w, x.set(w, 1, 5), false);
    c.sentence(6, "(TOP stays.)");
    c.due("top", x.of(1, 2), 0);
    Check.text(x, 0, "rises 20; falls 0;");
    x.days(1);
    c.due("a top", x.of(0, 2), 600);
    x.set(1, 0, 999);
    c.due("above it", x.of(0, 2), 600);
    x.set(1, 0, 0);
    c.due("below it", x.of(0, 2), 600);
    LarkExchange y = Check.town(0, 1, 0);
    y.set(3, 0, 77);
    c.due("BASE alone, not PRICE", y.goodOf(0, 2), 10);
    y.set(4, 0, 55);
    c.due("PRICE alone, not BASE", y.goodOf(0, 0), 77);
  }

  private static void p7Trading() {
    LarkExchange x = Check.town(0, 2, 2);
    c.sentence(7, "to BUY, to SELL one of a GOOD (he is not RUINED; he can: PRICE as it is, room; has one)");
    x.set(4, 1, 40);
    x.set(5, 0, 39);
    c.due("a purse one too small", x.act(0, 0, 1), false);
    c.due("nothing was done", x.who(0, 0) + x.look(7), 39);
    x.set(5, 0, 40);
    c.due("a purse that just pays", x.act(0, 0, 1), true);
    c.due("empty then", x.who(0, 0), 0);
    c.due("and has one", x.who(0, 11), 1);
    c.due("of the other none", x.act(1, 0, 0), false);
    x.set(4, 1, 999);
    c.due("sells at the price as it is", x.act(1, 0, 1), true);
    c.due("gets it", x.who(0, 0), 999);
    c.due("none left", x.act(1, 0, 1), false);
    c.due("another trader has none", x.act(1, 1, 1), false);
    x.set(4, 0, 1);
    for (int i = 0; i < 98; i++) x.act(0, 0, 0);
    c.due("room for the 99th", x.act(0, 0, 0), true);
    c.due("no room for the 100th", x.act(0, 0, 0), false);
    c.due("99", x.who(0, 10), 99);
    c.due("each paid", x.who(0, 0), 900);
    c.due("room for another good", x.act(0, 1, 0), true);
    c.due("sells of 99", x.act(1, 0, 0), true);
    c.due("sells one alone", x.who(0, 10), 98);
    c.due("gets for one alone", x.who(0, 0), 901);
    c.due("room again", x.act(0, 0, 0), true);
    LarkExchange y = Check.town(0, 1, 1);
    y.set(5, 0, 9);
    y.days(1);
    y.set(5, 0, 9999);
    c.due("is ruined", y.who(0, 1), 1);
    c.due("who is ruined does not buy", y.act(0, 0, 0), false);
    c.due("nor sell", y.act(1, 0, 0), false);
    c.due("his purse stays", y.who(0, 0), 9999);
  }

  private static void p7Larks() {
    LarkExchange x = Check.town(2, 0, 0);
    c.sentence(7, "to SCARE a LARK (LOST or not: SCARED one more, below 9)");
    for (int i = 1; i <= 9; i++) {
      c.due("scare", x.act(2, 1, 0), true);
      c.due("scared", x.of(1, 4), i);
    }
    c.due("scared nine times", x.act(2, 1, 0), false);
    c.due("nine still", x.of(1, 4), 9);
    c.due("not the other", x.of(0, 4), 0);
    c.due("a lark's scaring is in no book", x.look(7), 0);
    c.sentence(7, "to SEEK one that is LOST");
    x.set(1, 0, 999);
    c.due("one that is not lost", x.act(3, 0, 0), false);
    c.due("its height stays", x.of(0, 1), 999);
    Check.text(x, 0, "rises 40; falls 0;");
    x.set(2, 1, 0);
    x.days(1);
    c.due("both are lost", x.look(4), 3);
    c.due("scare a lost one", x.act(2, 1, 0), true);
    c.due("it is scared", x.of(1, 4), 1);
    c.due("seek", x.act(3, 1, 0), true);
    c.due("the other is lost", x.look(4), 1);
    c.due("height 0", x.of(1, 1), 0);
    c.due("top stays", x.of(1, 2), 999);
    c.due("scared stays", x.of(1, 4), 1);
    c.due("seek it again", x.act(3, 1, 0), false);
    c.sentence(7, "(2, 3: v not asked)");
    c.due("scare, far down", x.act(2, 1, FAR_DOWN), true);
    c.due("scare, far up", x.act(2, 1, FAR_UP), true);
    c.due("seek, far up", x.act(3, 0, FAR_UP), true);
  }

  private static void p7Refused() {
    LarkExchange x = Check.town(2, 2, 2);
    c.sentence(7, "true; false if it can't be, or another what.");
    int[] none = {-1, 2, FAR_DOWN, FAR_UP};
    for (int n : none) {
      for (int what = 0; what <= 3; what++) c.due(what + " by " + n, x.act(what, n, 0), false);
      c.due("buy of " + n, x.act(0, 0, n), false);
      c.due("sell of " + n, x.act(1, 0, n), false);
    }
    int[] others = {-1, 4, FAR_DOWN, FAR_UP};
    for (int what : others) c.due("what " + what, x.act(what, 0, 0), false);
    c.due("nothing was done", x.look(7) + x.look(13), 0);
    c.sentence(7, "by hand, too (one).");
    x.days(1);
    x.act(0, 1, 1);
    int fell = x.look(7) - 1;
    int[] bought = {1, 2, 1, 1};
    for (int w = 0; w < 4; w++) c.due("bought " + w, x.book(fell, w), bought[w]);
    x.act(1, 1, 1);
    int[] sold = {1, 3, 1, 1};
    for (int w = 0; w < 4; w++) c.due("sold " + w, x.book(fell + 1, w), sold[w]);
    x.act(2, 0, 0);
    c.due("no line for a scaring", x.look(7), fell + 2);
  }

  public static void main(String[] args) {
    p1(); p2(); p3(); p4(); p5(); p6();
    p7Trading(); p7Larks(); p7Refused();
    c.namesAll(1, 7);
    c.ends();
  }
}
