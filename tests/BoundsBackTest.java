import java.util.Arrays;

/** The boundary cases of promises 37 and 38, sentence by sentence: what is undone, what forgets it, and THE IMAGE. */
public final class BoundsBackTest {
  private static final Check c = new Check();

  /** Everything that can be asked of what is and was told, as one row of answers. */
  private static int[] all(LarkExchange x) {
    int[] found = new int[200];
    int n = 0;
    for (int w = 0; w <= 12; w++) found[n++] = x.look(w);
    for (int i = 0; i < 3; i++) for (int w = 0; w <= 7; w++) found[n++] = x.of(i, w);
    for (int i = 0; i < 3; i++) for (int w = 0; w <= 4; w++) found[n++] = x.goodOf(i, w);
    for (int i = 0; i < 3; i++) for (int w = 0; w <= 12; w++) found[n++] = x.who(i, w);
    for (int i = 0; i < 6; i++) for (int w = 0; w <= 3; w++) found[n++] = x.book(i, w);
    found[n++] = x.trading(2, 0);
    found[n++] = x.round(0, 0);
    found[n++] = x.caught(0, 1);
    found[n++] = x.packed(50, 0);
    found[n++] = x.packed(2, 0);
    found[n++] = x.packed(2, 1);
    found[n++] = x.row(0);
    found[n++] = x.row(3);
    return Arrays.copyOf(found, n);
  }
  private static void same(String what, int[] got, int[] due) {
    for (int i = 0; i < due.length; i++) c.due(what + ", answer " + i, got[i], due[i]);
  }

  private static LarkExchange lively() {
    LarkExchange x = Check.town(2, 2, 2);
    x.set(0, 1, 9);
    x.set(5, 1, 5);
    x.state(-12345);
    Check.text(x, 0, "rises 99 when voice = 9; rises 4; falls 0 when voice = 9; falls 600;asks height/3+2;");
    Check.text(x, 1, "on 0 wind 7; on 0 boy 0 5; on 1 seek 1; on 2 calm 0;");
    Check.text(x, 2, "on 0 trader 0 buy 1 of 1; on 1 trader 0 sell 1 of 1;");
    Check.text(x, 3, "good 0 by 0; good 1 by 1;");
    return x;
  }

  /** Does the first n of six deeds, one of each kind; a new object each time, since one is used for 512 calls at most. */
  private static LarkExchange afterDeeds(int n) {
    LarkExchange x = lively();
    for (int i = 0; i < n; i++) {
      boolean did = i == 0 ? x.days(1) >= 0 : i == 1 ? x.act(0, 0, 0) : i == 2 ? x.act(1, 0, 0)
          : i == 3 ? x.act(2, 1, 0) : i == 4 ? x.act(3, 1, 0) : x.act(2, 0, 0);
      c.due("done " + i, did, true);
    }
    return x;
  }

  private static void p37Back() {
    c.sentence(37, "UNDO: true; false if there is nothing.");
    LarkExchange x = lively();
    c.due("nothing yet", x.undo(), false);
    same("refused, nothing changed", all(x), all(lively()));
    c.sentence(37, "the latest DAY, BUYING, SELLING, SCARING, SEEKING not undone yet goes back (STATE, THE BOOK, too)");
    for (int left = 5; left >= 0; left--) {
      LarkExchange y = afterDeeds(6);
      for (int i = 6; i > left; i--) c.due("undone", y.undo(), true);
      same("as it was behind " + left, all(y), all(afterDeeds(left)));
      c.due("left to undo", y.look(13), left);
    }
    LarkExchange z = lively();
    z.days(1);
    z.undo();
    z.days(1);
    same("the same draws again", all(z), all(afterDeeds(1)));
    z.undo();
    same("and back", all(z), all(lively()));
    z.act(2, 0, 0);
    c.due("another thing done then", z.look(13), 1);
    z.undo();
    same("and back again", all(z), all(lively()));
    c.due("not undone twice", z.undo(), false);
  }

  private static void p37Six() {
    c.sentence(37, "6 are kept");
    LarkExchange x = Check.town(1, 1, 1);
    x.days(5);
    c.due("five", x.look(13), 5);
    x.days(1);
    c.due("six", x.look(13), 6);
    x.days(60);
    c.due("six of 66", x.look(13), 6);
    for (int i = 1; i <= 6; i++) {
      c.due("back", x.undo(), true);
      c.due("to", x.look(6), 66 - i);
    }
    c.due("not a seventh", x.undo(), false);
    c.due("sixty days", x.look(6), 60);
    for (int i = 0; i < 4; i++) x.act(0, 0, 0);
    x.undo();
    x.undo();
    for (int i = 0; i < 5; i++) x.act(2, 0, 0);
    c.due("two and five are six", x.look(13), 6);
    for (int i = 0; i < 6; i++) c.due("back", x.undo(), true);
    c.due("the first buying is too far", x.undo(), false);
    c.due("it stays", x.who(0, 10), 1);
    c.due("none is scared", x.of(0, 4), 0);
    c.due("its line stays", x.book(x.look(7) - 1, 1), 2);
  }

  /** A town where one DAY can be undone. */
  private static LarkExchange ready() {
    LarkExchange x = Check.town(1, 1, 1);
    x.days(1);
    return x;
  }
  private static void forgets(String what, LarkExchange x, boolean due) { c.due(what, x.look(13), due ? 0 : 1); }

  private static void p37Forgets() {
    c.sentence(37, "whatever else is told but THE LAW and what is told for thought (TRADING, ROUND, CAUGHT, SACK) (feed(), end(), what is refused, a text with a FAULT, the taking of THE IMAGE do not) forgets them.");
    LarkExchange x = ready(); x.state(5); forgets("state", x, true);
    x = ready(); x.state(x.look(8)); forgets("state as it is", x, true);
    x = ready(); x.lark(1); forgets("a lark", x, true);
    x = ready(); x.good(1); forgets("a good", x, true);
    x = ready(); x.trader(1); forgets("a trader", x, true);
    for (int w = 0; w <= 6; w++) { x = ready(); x.set(w, 0, 1); forgets("set " + w, x, true); }
    x = ready(); Check.text(x, 0, "asks 1;"); forgets("the law", x, false);
    x = ready(); x.text(0); forgets("an empty law", x, false);
    x = ready(); Check.text(x, 1, "on 1 wind 1;"); forgets("dawns", x, true);
    x = ready(); Check.text(x, 2, "on 1 trader 0 buy 1 of 0;"); forgets("trades", x, true);
    x = ready(); Check.text(x, 3, "good 0 by 0;"); forgets("bound", x, true);
    for (int k = 1; k <= 3; k++) { x = ready(); x.text(k); forgets("an empty text " + k, x, true); }
    x = ready(); x.price(5); x.price(-1); forgets("trading", x, false);
    x = ready(); x.change(0, 1, 11); x.change(0, 1, 0); forgets("round", x, false);
    x = ready(); x.way(0, 1); x.way(-1, 0); forgets("caught", x, false);
    x = ready(); x.sack(1, 1); x.sack(-1, 0); forgets("sack", x, false);
    x = ready(); x.feed(1, 2, 3, 4, 5); forgets("feed", x, false);
    x = ready(); x.feed(1, 2, 3, 4, 5); x.end(3); forgets("end", x, false);
    x = ready(); x.image(true); forgets("the taking of the image", x, false);
    x = ready(); x.image(true); x.image(false); forgets("going back to the image", x, true);
  }
  private static void p37Refused() {
    c.sentence(37, "what is refused, a text with a FAULT");
    LarkExchange x = ready(); x.lark(-1); x.lark(10); forgets("a lark that can't be", x, false);
    x = ready(); x.good(0); x.good(100); forgets("a good that can't be", x, false);
    x = ready(); x.trader(-1); x.trader(10000); forgets("a trader that can't be", x, false);
    x = ready(); for (int w = -1; w <= 7; w++) { x.set(w, 0, -1); x.set(w, 0, 10000); } forgets("a set that can't be", x, false);
    x = ready(); for (int w = 0; w <= 5; w++) x.set(w, 1, 1); forgets("a set of none", x, false);
    x = ready(); for (int w = -1; w <= 4; w++) x.act(w, 5, 5); forgets("an act that can't be", x, false);
    x = ready(); x.days(0); x.days(61); forgets("days that can't be", x, false);
    x = ready(); for (int k = 0; k <= 3; k++) Check.text(x, k, "!"); forgets("a text with a fault", x, false);
    x = ready(); x.text(-1); x.text(4); forgets("no such text", x, false);
    x = ready(); x.image(false); forgets("no image", x, false);
    x = ready(); x.goes(5, 0); x.ruin(0); x.look(8); x.of(0, 5); forgets("asking", x, false);
    LarkExchange full = Check.town(6, 8, 10);
    full.days(1);
    full.lark(1);
    full.good(1);
    full.trader(1);
    forgets("one too many", full, false);
    LarkExchange y = ready();
    Check.text(y, 0, "asks 5;");
    y.price(9);
    y.change(0, 1, 31);
    y.change(1, 0, 11);
    y.way(0, 1);
    y.sack(3, 7);
    y.undo();
    c.due("the law stays", y.goodOf(0, 3), 5);
    c.due("the prices stay", y.row(0), 9);
    c.due("the changes stay", y.round(0, 0), 3);
    c.due("the ways stay", y.caught(0, 1), 1);
    c.due("the sack stays", y.packed(9, 0), 7);
  }

  private static LarkExchange told() {
    LarkExchange x = lively();
    x.price(3);
    x.price(8);
    x.change(0, 1, 31);
    x.change(1, 0, 11);
    x.way(0, 1);
    x.sack(3, 7);
    x.days(1);
    x.act(0, 0, 0);
    return x;
  }
  private static void goesOn(LarkExchange x) {
    x.days(2);
    x.act(2, 0, 0);
    c.due("a third price", x.price(20), 3);
    c.due("a second way", x.way(1, 2), 2);
    c.due("a second one for the sack", x.sack(4, 4), 2);
  }

  private static void p38() {
    c.sentence(38, "THE IMAGE is taken (true), or gone back to (false): true; false if there is none.");
    LarkExchange x = told();
    c.due("none yet", x.image(false), false);
    same("nothing changed", all(x), all(told()));
    c.due("taken of it", x.image(true), true);
    c.due("there is one", x.image(false), true);
    c.sentence(38, "all that is and was told but the TAPE, fault() and what can be undone (nothing then), as it was when it was taken; gone back to it may be more than once.");
    for (int times = 1; times <= 3; times++) {
      LarkExchange y = told();
      y.image(true);
      c.due("the taking keeps what can be undone", y.look(13), 2);
      for (int again = 0; again < times; again++) {
        changes(y);
        c.faulty(y, 0, "asks 1/0", 2, 7);
        Check.feed(y, "asks 7;");
        c.due("gone back", y.image(false), true);
        c.due("nothing to undo", y.look(13), 0);
        c.due("undo", y.undo(), false);
        c.due("fault() is not in it", y.fault(0), 2);
        c.due("nor its place", y.fault(1), 7);
        c.due("nor the tape", y.end(7), true);
        c.due("which stays", y.end(8), false);
        y.end(0);
      }
      same("as it was when it was taken", all(y), all(told()));
      goesOn(y);
      LarkExchange z = told();
      goesOn(z);
      same("all goes on from it alike", all(y), all(z));
    }
  }
  private static void changes(LarkExchange x) {
    x.lark(4);
    x.good(4);
    x.trader(4);
    for (int w = 0; w <= 6; w++) x.set(w, 0, 2);
    x.set(4, 0, 8);
    x.days(3);
    x.act(0, 0, 0);
    Check.text(x, 0, "falls 7; rises 8; asks 9; asks 10 when 1=1;");
    Check.text(x, 1, "on 5 wind 9; on 6 boy 1 9;");
    Check.text(x, 2, "on 5 trader 1 sell 9 of 0;");
    Check.text(x, 3, "good 1 by 0;");
    x.price(-1);
    for (int v = 50; v < 55; v++) x.price(v);
    x.change(0, 1, 0);
    x.change(1, 0, 99);
    x.way(-1, 0);
    for (int i = 2; i < 7; i++) x.way(i, i + 1);
    x.sack(-1, 0);
    for (int i = 4; i < 8; i++) x.sack(i, 9);
    x.state(99);
  }
  private static void p38Anew() {
    LarkExchange x = Check.town(0, 1, 2);
    x.act(0, 0, 0);
    x.image(true);
    x.undo();
    x.act(0, 1, 0);
    x.image(false);
    c.due("its own book", x.book(0, 2), 0);
    x.act(0, 1, 0);
    x.image(true);
    x.set(5, 0, 1);
    x.image(false);
    c.due("the latest taken", x.look(7), 2);
    c.due("not the one ahead of it", x.who(1, 10), 1);
    c.due("as it was then", x.who(0, 0), 90);
    LarkExchange empty = new LarkExchange();
    empty.image(true);
    empty.lark(1);
    empty.days(5);
    c.due("an image of nothing", empty.image(false), true);
    for (int w = 0; w <= 13; w++) c.due("nothing " + w, empty.look(w), 0);
    c.due("larks come anew", empty.lark(7), 0);
    for (int w = 1; w <= 4; w++) c.due("at first " + w, empty.of(0, w), 0);
    c.due("goods come anew", empty.good(7), 0);
    c.due("by none", empty.goodOf(0, 1), -1);
  }
  /** Behind a way back to fewer larks, goods and traders new ones are as new as ever. */
  private static void p38AsNew() {
    LarkExchange x = new LarkExchange();
    x.image(true);
    for (int i = 0; i < 3; i++) { x.lark(9); x.good(20); x.trader(500); }
    Check.text(x, 0, "rises 50; falls 0;");
    Check.text(x, 3, "good 0 by 0; good 1 by 1; good 2 by 2;");
    for (int i = 0; i < 3; i++) { x.set(2, i, 5); x.act(0, i, i); }
    x.set(5, 0, 0);
    x.act(1, 0, 0);
    x.days(1);
    x.image(false);
    for (int i = 0; i < 3; i++) { x.lark(1); x.good(2); x.trader(3); }
    for (int i = 0; i < 3; i++) {
      for (int w = 1; w <= 4; w++) c.due("lark " + i + " what " + w, x.of(i, w), 0);
      c.due("by none", x.goodOf(i, 1), -1);
      c.due("price", x.goodOf(i, 2), 2);
      c.due("none has any", x.goodOf(i, 4), 0);
      c.due("not ruined", x.who(i, 1), 0);
      for (int g = 0; g < 3; g++) c.due("no stock", x.who(i, 10 + g), 0);
    }
  }

  public static void main(String[] args) {
    p37Back(); p37Six(); p37Forgets(); p37Refused(); p38(); p38Anew(); p38AsNew();
    c.namesAll(37, 38);
    c.ends();
  }
}
