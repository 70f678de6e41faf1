/** The boundary cases of promise 8, sentence by sentence (a) to (e), and of THE BOOK that a DAY writes. */
public final class BoundsDayTest {
  private static final Check c = new Check();

  private static LarkExchange with(int larks, int goods, int traders, String law) {
    LarkExchange x = Check.town(larks, goods, traders);
    if (Check.text(x, 0, law) < 0) throw new IllegalStateException(law);
    return x;
  }

  private static void bounds() {
    c.sentence(8, "DAYS go by (1 .. 60): how many larks fell in them.");
    LarkExchange x = with(2, 0, 0, "falls 1000;");
    int[] beyond = {0, -1, 61, Integer.MIN_VALUE, Integer.MAX_VALUE};
    for (int n : beyond) c.due("days " + n, x.days(n), -1);
    c.due("nothing was done", x.look(6) + x.look(7) + x.look(8) + x.look(13), 0);
    c.due("one day", x.days(1), 2);
    c.due("is one", x.look(6), 1);
    c.due("sixty days", x.days(60), 120);
    c.due("are sixty", x.look(6), 61);
    Check.text(x, 0, "falls 1000 when day = 63; falls 0;");
    c.due("on one day of three", x.days(3), 2);
    c.due("on none", x.days(3), 0);
    c.sentence(8, "NONE, and nothing is done, if one can't be, or DAY would be above 9999.");
    LarkExchange y = Check.town(0, 1, 1);
    for (int i = 0; i < 166; i++) y.days(60);
    c.due("9960", y.look(6), 9960);
    c.due("to 10000", y.days(40), -1);
    c.due("to 10020", y.days(60), -1);
    c.due("nothing is done", y.look(6), 9960);
    c.due("what can be undone stays", y.look(13), 6);
    c.due("to 9998", y.days(38), 0);
    c.due("to 10000 by two", y.days(2), -1);
    c.due("to 9999", y.days(1), 0);
    c.due("9999", y.look(6), 9999);
    c.due("no more", y.days(1), -1);
    c.due("9999 still", y.look(6), 9999);
    c.due("undone", y.undo(), true);
    c.due("and gone again", y.days(1), 0);
    c.due("9999 again", y.look(6), 9999);
    y.act(0, 0, 0);
    c.due("by hand on the last day", y.book(0, 0), 9999);
    Check.text(y, 0, "asks day;");
    c.due("the law on the last day", y.goodOf(0, 3), 999);
    Check.text(y, 0, "asks day-9990;");
    c.due("the law's day", y.goodOf(0, 3), 9);
  }

  private static void dawns() {
    c.sentence(8, "Line by line of DAWNS for it: boy: SCARED N more (9 at most); calm: SCARED 0");
    LarkExchange x = with(1, 1, 0, "rises scared; falls 0;");
    Check.text(x, 1, "on 0 boy 0 1; on 1 boy 0 9; on 2 calm 0; on 3 calm 0; on 3 boy 0 2; on 4 boy 0 2; on 4 calm 0; on 5 boy 0 4; on 5 boy 0 4;");
    int[] sung = {1, 9, 0, 2, 0, 8, 7};
    for (int d = 0; d < sung.length; d++) {
      x.days(1);
      c.due("scared on day " + d, x.of(0, 1), 30 * sung[d]);
      c.due("one less behind it", x.of(0, 4), Math.max(0, sung[d] - 1));
    }
    LarkExchange eight = with(1, 0, 0, "rises scared; falls 0;");
    Check.text(eight, 1, "on 0 boy 0 1; on 1 boy 0 2; on 2 boy 0 1;");
    int[] from = {8, 8, 9};
    for (int d = 0; d < 3; d++) {
      eight.set(2, 0, from[d]);
      eight.days(1);
      c.due("nine at most from " + from[d], eight.of(0, 1), 270);
    }
    c.sentence(8, "wind: WIND is N");
    LarkExchange y = with(1, 1, 0, "rises wind; falls 0; asks wind+1;");
    Check.text(y, 1, "on 1 wind 9; on 2 wind 5; on 2 wind 3; on 4 wind 0;");
    int[] winds = {0, 9, 3, 3, 0};
    for (int d = 0; d < winds.length; d++) {
      y.days(1);
      c.due("wind of day " + d, y.look(3), winds[d]);
      c.due("rises by it on that day", y.of(0, 1), 30 * winds[d]);
      c.due("asks by it on that day", y.goodOf(0, 2), winds[d] + 1);
    }
    c.sentence(8, "seek: one that is LOST is not any more, its HEIGHT 0.");
    LarkExchange z = with(2, 0, 0, "rises 99 when day = 0; rises 1; falls 0;");
    Check.text(z, 1, "on 2 seek 0; on 3 boy 1 4; on 4 seek 0; on 999 seek 1;");
    z.days(2);
    c.due("both are lost", z.look(4), 3);
    c.due("and stay where they were", z.of(0, 1), 999);
    z.days(1);
    c.due("one is sought", z.look(4), 2);
    c.due("and sings on that day, from 0", z.of(0, 1), 30);
    c.due("top stays", z.of(0, 2), 999);
    z.days(1);
    c.due("a boy scares a lost one, too", z.of(1, 4), 4);
    z.days(1);
    c.due("seeking one that is not lost", z.of(0, 1), 30);
    c.due("a lost one is scared as it was", z.of(1, 4), 4);
  }

  private static void otherDays() {
    c.sentence(8, "(DAY 0 .. 999; boy 1 .. 9, wind 0 .. 9.)");
    LarkExchange x = Check.town(0, 1, 1);
    Check.text(x, 1, "on 0 wind 1; on 1 wind 2; on 999 wind 9;");
    Check.text(x, 2, "on 999 trader 0 buy 2 of 0;");
    x.days(1);
    c.due("the first day's", x.look(3), 1);
    x.days(1);
    c.due("the next day's", x.look(3), 2);
    for (int i = 0; i < 16; i++) x.days(60);
    x.days(37);
    c.due("day 999", x.look(6), 999);
    c.due("not yet", x.look(3), 2);
    c.due("nothing bought yet", x.who(0, 10), 0);
    x.days(1);
    c.due("the last told day's", x.look(3), 9);
    c.due("bought", x.who(0, 10), 2);
    x.days(1);
    c.due("and none behind it", x.who(0, 10), 2);
    c.due("day 1001", x.look(6), 1001);
  }

  private static void sixteenLines() {
    c.sentence(8, "16 lines of each at most.");
    LarkExchange x = Check.town(1, 1, 1);
    c.due("dawns", Check.text(x, 1, "on 0 boy 0 1;".repeat(4) + "on 0 calm 0;".repeat(10) + "on 0 wind 3; on 0 wind 8;"), 16);
    c.due("trades", Check.text(x, 2, "on 0trader 0buy 1of 0;".repeat(8) + "on 0trader 0sell 1of 0;".repeat(7) + "on 0trader 0buy 2of 0;"), 16);
    x.days(1);
    c.due("the sixteenth of dawns", x.look(3), 8);
    c.due("the sixteenth of trades", x.who(0, 10), 3);
    LarkExchange y = Check.town(1, 1, 1);
    Check.text(y, 1, "on 0 wind 3; on 0 wind 8;");
    Check.text(y, 2, "on 0 trader 0 buy 1 of 0; on 0 trader 0 buy 2 of 0;");
    Check.text(y, 1, "on 0 wind 4;");
    Check.text(y, 2, "on 0 trader 0 buy 3 of 0;");
    y.days(1);
    c.due("nothing of dawns told ahead", y.look(3), 4);
    c.due("nothing of trades told ahead", y.who(0, 10), 3);
  }

  private static void minutes() {
    c.sentence(8, "HEIGHT 0; then minute by minute, 30 at most");
    LarkExchange x = with(1, 0, 0, "rises 1; falls 0;");
    x.set(1, 0, 700);
    c.due("none falls", x.days(1), 0);
    c.due("thirty minutes from 0", x.of(0, 1), 30);
    Check.text(x, 0, "rises minute; falls 0;");
    x.days(1);
    c.due("minutes 0 to 29", x.of(0, 1), 435);
    Check.text(x, 0, "rises 1; falls 1000 when minute = 29; falls 0;");
    c.due("falls in the last one", x.days(1), 1);
    c.due("thirty high", x.of(0, 1), 30);
    Check.text(x, 0, "rises 1; falls 1000 when minute > 29; falls 0;");
    c.due("there is none behind it", x.days(1), 0);
    Check.text(x, 0, "rises 1; falls 1000 when minute = 0;");
    c.due("falls in the first one", x.days(1), 1);
    c.due("one high", x.of(0, 1), 1);
    c.sentence(8, "rises is asked, HEIGHT so much more (999 at most), TOP is HEIGHT, if that is greater");
    Check.text(x, 0, "rises 5 when height = 0; rises 2; falls 0;");
    x.days(1);
    c.due("rises sees the height ahead of it", x.of(0, 1), 5 + 29 * 2);
    c.due("top stays above it", x.of(0, 2), 435);
    Check.text(x, 0, "rises 99; falls 1000 when minute = 9; falls 0;");
    x.days(1);
    c.due("990", x.of(0, 1), 990);
    Check.text(x, 0, "rises 99; falls 1000 when minute = 10; falls 0;");
    x.days(1);
    c.due("999 at most", x.of(0, 1), 999);
    c.due("and so is top", x.of(0, 2), 999);
    LarkExchange y = with(1, 0, 0, "rises 9 when minute = 0; rises 90 when minute = 1; rises 99 when minute < 11; rises 9 when minute = 11; rises 1; falls 1000 when minute = 12; falls 0;");
    y.days(1);
    c.due("999 just", y.of(0, 1), 999);
    c.sentence(8, "falls is asked (height, top as they are then)");
    LarkExchange z = with(1, 0, 0, "rises 7; falls 1000 when height = 7 and top = 7 and minute = 0; falls 0;");
    c.due("behind the first rise", z.days(1), 1);
    Check.text(z, 0, "rises 3; falls 1000 when height = 6 and top = 7; falls 0;");
    c.due("top of another day", z.days(1), 1);
    c.due("six high", z.of(0, 1), 6);
    Check.text(z, 0, "rises 4; falls 1000 when top = 8 and height = 8; falls 0;");
    c.due("a new top at once", z.days(1), 1);
    c.due("eight high", z.of(0, 1), 8);
    c.due("its top", z.of(0, 2), 8);
  }

  private static void falling() {
    c.sentence(8, "is it above 0, a DRAW of 1000: below it it falls, and that was its dawn.");
    LarkExchange x = with(1, 0, 0, "rises 1; falls 0;");
    x.state(77);
    c.due("falls 0", x.days(1), 0);
    c.due("no draw", x.look(8), 77);
    Check.text(x, 0, "rises 1; falls 1 when minute < 2; falls 0;");
    x.state(Check.stateAhead(0));
    c.due("falls 1, a draw of 0", x.days(1), 1);
    c.due("one draw", x.look(8), 0);
    c.due("that was its dawn", x.of(0, 1), 1);
    x.state(Check.stateAhead(256));
    c.due("falls 1, a draw of 1", x.days(1), 0);
    c.due("then another", x.look(8), 256 * 1664525 + 1013904223);
    c.due("all minutes", x.of(0, 1), 30);
    Check.text(x, 0, "rises 1; falls 999 when minute = 0; falls 0;");
    x.state(Check.stateAhead(999 << 8));
    c.due("falls 999, a draw of 999", x.days(1), 0);
    Check.text(x, 0, "rises 1; falls 1000 when minute = 0; falls 0;");
    x.state(Check.stateAhead(999 << 8));
    c.due("falls 1000, a draw of 999", x.days(1), 1);
    c.due("it draws, too", x.look(8), 999 << 8);
    LarkExchange y = with(2, 0, 0, "rises 1; falls 1000;");
    y.state(Check.stateAhead(Check.stateAhead(12345)));
    y.days(1);
    c.due("lark by lark, a draw each", y.look(8), 12345);
  }

  private static void losing() {
    c.sentence(8, "Who has not fallen behind 30 minutes, and whose HEIGHT is 500 at least, is LOST.");
    LarkExchange x = with(1, 1, 0, "rises 16 when minute < 29; rises 35; falls 0;");
    x.days(1);
    c.due("499", x.of(0, 1), 499);
    c.due("is not lost", x.of(0, 3), 0);
    c.due("no line", x.look(7), 0);
    Check.text(x, 0, "rises 16 when minute < 29; rises 36; falls 1000 when minute = 29; falls 0;");
    c.due("fallen from 500 in the last minute", x.days(1), 1);
    c.due("500", x.of(0, 1), 500);
    c.due("is not lost who fell", x.of(0, 3), 0);
    Check.text(x, 0, "rises 16 when minute < 29; rises 36; falls 0;");
    c.due("does not fall", x.days(1), 0);
    c.due("is lost at 500", x.of(0, 3), 1);
    int[] line = {2, 1, 0, 500};
    for (int w = 0; w < 4; w++) c.due("its line " + w, x.book(1, w), line[w]);
    c.sentence(8, "LARK by LARK that is not LOST");
    Check.text(x, 0, "rises 1; falls 1000;");
    x.set(2, 0, 5);
    x.state(3);
    c.due("a lost one does not fall", x.days(1), 0);
    c.due("nor draw", x.look(8), 3);
    c.due("nor sing", x.of(0, 1), 500);
    c.sentence(8, "SCARED of each that sang one less (0 at least) behind it.");
    c.due("who is lost does not sing", x.of(0, 4), 5);
    LarkExchange y = with(4, 0, 0, "rises 99 when scared = 9; rises 1; falls 1000 when scared = 2; falls 0;");
    y.set(2, 1, 1);
    y.set(2, 2, 2);
    y.set(2, 3, 9);
    c.due("one falls", y.days(1), 1);
    int[] then = {0, 0, 1, 8};
    for (int i = 0; i < 4; i++) c.due("scared " + i, y.of(i, 4), then[i]);
    c.due("one is lost on that day", y.look(4), 8);
  }

  private static void prices() {
    c.sentence(8, "GOOD by GOOD: asks is asked: that is its PRICE; if it is by a LARK that is LOST: it stays as it was.");
    LarkExchange x = with(2, 3, 0, "rises 99 when voice = 9; rises 1; falls 0; asks height+base+lost+scared;");
    x.set(0, 1, 9);
    x.set(2, 0, 4);
    x.set(4, 1, 77);
    x.set(4, 2, 78);
    Check.text(x, 3, "good 0 by 0; good 1 by 1;");
    x.days(1);
    c.due("by its lark, scared one less by then", x.goodOf(0, 2), 30 + 10 + 3);
    c.due("by one that was lost on that day", x.goodOf(1, 2), 77);
    c.due("by none", x.goodOf(2, 2), 10);
    x.days(1);
    c.due("by one that is lost", x.goodOf(1, 2), 77);
    c.due("asks of it is more", x.goodOf(1, 3), 999);
    x.set(4, 1, 5);
    x.days(1);
    c.due("stays as it was told", x.goodOf(1, 2), 5);
    Check.text(x, 3, "good 0 by 0;");
    x.days(1);
    c.due("by none any more", x.goodOf(1, 2), 10);
    c.due("not of the lost", x.look(4), 2);
    Check.text(x, 0, "rises 1; falls 0; asks minute+20;");
    x.days(1);
    c.due("minute 0", x.goodOf(0, 2), 20);
    Check.text(x, 0, "rises 1; falls 0; asks 0 when base = 10; asks 1000;");
    x.set(3, 0, 11);
    x.days(1);
    c.due("1 at least", x.goodOf(1, 2), 1);
    c.due("999 at most", x.goodOf(0, 2), 999);
  }

  private static void buying() {
    c.sentence(8, "Quotients go downwards.");
    LarkExchange dear = Check.town(0, 1, 1);
    dear.set(5, 0, 1997);
    Check.text(dear, 0, "asks 999;");
    Check.text(dear, 2, "on 0 trader 0 buy 99 of 0;");
    dear.days(1);
    c.due("not by one more", dear.who(0, 10), 1);
    c.due("what is left", dear.who(0, 0), 998);
    c.sentence(8, "buy: as many as N, as PURSE pays and as there is room for (STOCK 99 at most)");
    int[] purses = {0, 9, 10, 19, 20, 29, 30, 31, 9999};
    int[] bought = {0, 0, 1, 1, 2, 2, 3, 3, 3};
    for (int i = 0; i < purses.length; i++) {
      LarkExchange x = Check.town(0, 1, 1);
      x.set(5, 0, purses[i]);
      Check.text(x, 2, "on 0 trader 0 buy 3 of 0;");
      x.days(1);
      c.due("bought with " + purses[i], x.who(0, 10), bought[i]);
      c.due("left of " + purses[i], x.who(0, 0), purses[i] - 10 * bought[i]);
      c.due("a line if above 0", x.book(0, 1), bought[i] > 0 ? 2 : 4);
    }
    LarkExchange y = Check.town(0, 2, 1);
    y.set(3, 0, 1);
    y.set(3, 1, 1);
    y.set(5, 0, 9999);
    Check.text(y, 2, "on 0 trader 0 buy 97 of 0; on 1 trader 0 buy 1 of 0; on 2 trader 0 buy 2 of 0; on 3 trader 0 buy 99 of 0; on 3 trader 0 buy 99 of 1;");
    int[] stock = {97, 98, 99, 99};
    for (int d = 0; d < 4; d++) {
      y.days(1);
      c.due("stock on day " + d, y.who(0, 10), stock[d]);
    }
    c.due("room for another good", y.who(0, 11), 99);
    c.due("paid for what went in", y.who(0, 0), 9999 - 2 * 99);
    int[] many = {97, 1, 1, 99};
    for (int i = 0; i < 4; i++) c.due("line " + i, y.book(i, 3), many[i]);
    c.due("no line of none", y.look(7), 4);
  }

  private static void selling() {
    c.sentence(8, "sell: as many as N and as he has: PURSE so much less, more.");
    LarkExchange x = Check.town(0, 2, 2);
    for (int i = 0; i < 5; i++) x.act(0, 0, 0);
    x.act(0, 0, 1);
    Check.text(x, 2, "on 0 trader 0 sell 4 of 0; on 1 trader 0 sell 2 of 0; on 1 trader 0 sell 1 of 0; on 1 trader 1 sell 99 of 1; on 2 trader 0 sell 99 of 1; on 2 trader 0 buy 1 of 0; on 2 trader 0 sell 1 of 0;");
    Check.text(x, 0, "asks 7 when day = 1; asks 20;");
    x.days(1);
    c.due("as many as told", x.who(0, 10), 1);
    c.due("at the price of that day", x.who(0, 0), 40 + 80);
    x.days(1);
    c.due("as many as he has", x.who(0, 10), 0);
    c.due("gets for one", x.who(0, 0), 127);
    c.due("who has none", x.who(1, 0), 100);
    c.due("lines", x.look(7), 8);
    x.days(1);
    c.due("line by line", x.who(0, 0), 147);
    int[] bought = {2, 2, 0, 1};
    int[] sold = {2, 3, 0, 1};
    for (int w = 0; w < 4; w++) c.due("bought " + w, x.book(9, w), bought[w]);
    for (int w = 0; w < 4; w++) c.due("then sold " + w, x.book(10, w), sold[w]);
    c.sentence(8, "Line by line of TRADES for it, of who is not RUINED");
    LarkExchange y = Check.town(0, 1, 2);
    y.set(5, 0, 9);
    Check.text(y, 2, "on 0 trader 0 buy 1 of 0; on 1 trader 0 buy 1 of 0; on 1 trader 1 buy 1 of 0;");
    y.days(1);
    y.set(5, 0, 9999);
    y.days(1);
    c.due("a ruined one does not buy", y.who(0, 10), 0);
    c.due("another does", y.who(1, 10), 1);
    c.due("his purse stays", y.who(0, 0), 9999);
  }

  private static void ruining() {
    c.sentence(8, "TRADER by TRADER who is not RUINED yet and has no STOCK at all and a PURSE of less than the least PRICE of a GOOD (there is one): RUINED, for good.");
    LarkExchange x = Check.town(0, 3, 4);
    int[] bases = {30, 20, 40};
    for (int g = 0; g < 3; g++) x.set(3, g, bases[g]);
    x.set(5, 0, 20);
    x.set(5, 1, 19);
    x.set(5, 2, 10);
    x.act(0, 2, 2);
    x.set(5, 3, 0);
    x.days(1);
    c.due("the purse of the least price is enough; one less is not; nor with stock", x.look(5), 2 + 8);
    int[] first = {0, 4, 1, 19};
    int[] second = {0, 4, 3, 0};
    for (int w = 0; w < 4; w++) c.due("the first " + w, x.book(1, w), first[w]);
    for (int w = 0; w < 4; w++) c.due("the second " + w, x.book(2, w), second[w]);
    c.due("stock in the last good alone", x.who(2, 12) + 10 * x.who(2, 0), 1);
    x.set(5, 1, 9999);
    x.days(3);
    c.due("for good", x.look(5), 2 + 8);
    c.due("and told once", x.look(7), 3);
    LarkExchange sold = Check.town(0, 1, 1);
    sold.set(5, 0, 10);
    sold.act(0, 0, 0);
    Check.text(sold, 0, "asks 9 when day < 1; asks 8 when day < 2; asks 9;");
    Check.text(sold, 2, "on 1 trader 0 sell 1 of 0;");
    sold.days(1);
    c.due("with one left", sold.look(5), 0);
    sold.days(1);
    c.due("sold for just the price", sold.look(5), 0);
    sold.days(1);
    c.due("then it is dearer", sold.look(5), 1);
    LarkExchange none = Check.town(1, 0, 2);
    none.set(5, 0, 0);
    none.days(2);
    c.due("without a good no one", none.look(5), 0);
    LarkExchange lost = with(1, 2, 1, "rises 99; falls 0; asks 90;");
    Check.text(lost, 3, "good 0 by 0;");
    lost.set(5, 0, 50);
    lost.set(4, 0, 50);
    lost.days(1);
    c.due("the price of a lost one's good counts", lost.look(5), 0);
    lost.set(4, 0, 51);
    lost.days(1);
    c.due("one dearer", lost.look(5), 1);
    c.sentence(8, "DAY is one more.");
    c.due("two days", lost.look(6), 2);
  }

  private static void book() {
    c.sentence(16, "THE BOOK (150 lines; no more then)");
    LarkExchange x = with(1, 1, 1, "rises 1; falls 1000;");
    x.days(60);
    x.days(60);
    x.days(29);
    c.due("149", x.look(7), 149);
    x.days(1);
    c.due("150", x.look(7), 150);
    x.days(1);
    c.due("no more", x.look(7), 150);
    c.due("the last is the 150th", x.book(149, 0), 149);
    c.due("none behind it", x.book(150, 0), -10);
    c.due("by hand it goes on", x.act(0, 0, 0), true);
    c.due("without a line", x.look(7), 150);
    c.due("but paid", x.who(0, 0), 90);
    for (int i = 0; i < 2; i++) x.undo();
    c.due("undone, full still", x.look(7), 150);
    x.undo();
    c.due("undone once more", x.look(7), 149);
    x.act(0, 0, 0);
    c.due("room for one", x.book(149, 1), 2);
    x.act(1, 0, 0);
    c.due("full again", x.look(7), 150);
    c.due("the bought stays", x.book(149, 1), 2);
    LarkExchange y = with(4, 0, 0, "rises 1; falls 1000;");
    y.days(37);
    y.set(2, 0, 0);
    y.days(1);
    c.due("full in the midst of a day", y.look(7), 150);
    c.due("its second lark is the last", y.book(149, 2), 1);
    c.sentence(16, "what (0 fell, 1 is lost, 2 bought, 3 sold, 4 ruined), who (0, 1: the LARK; else the TRADER), how much (0, 1: HEIGHT; 2, 3: how many, if above 0; 4: PURSE)");
    LarkExchange z = with(2, 1, 2, "rises 99 when voice = 9; rises 2; falls 1000 when voice = 3; falls 0;");
    z.set(0, 1, 9);
    z.set(5, 0, 5);
    z.act(0, 1, 0);
    z.days(1);
    z.act(1, 1, 0);
    int[][] lines = {{0, 2, 1, 1}, {0, 0, 0, 2}, {0, 1, 1, 999}, {0, 4, 0, 5}, {1, 3, 1, 1}};
    c.due("lines", z.look(7), lines.length);
    for (int i = 0; i < lines.length; i++)
      for (int w = 0; w < 4; w++) c.due("line " + i + " what " + w, z.book(i, w), lines[i][w]);
  }

  public static void main(String[] args) {
    bounds(); dawns(); otherDays(); sixteenLines(); minutes(); falling(); losing(); prices(); buying(); selling(); ruining(); book();
    c.namesAll(8, 8);
    c.namesAll(16, 16);
    c.ends();
  }
}
