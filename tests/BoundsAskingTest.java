/** The boundary cases of promises 13 to 18 and 39, sentence by sentence: what is asked of larks, goods, traders, and days in thought. */
public final class BoundsAskingTest {
  private static final Check c = new Check();
  private static final int FAR_DOWN = Integer.MIN_VALUE;
  private static final int FAR_UP = Integer.MAX_VALUE;

  /** What E comes to, by an asks of a good by lark 0 (10 is its base, 3 the lark's voice). */
  private static int asked(String e) {
    LarkExchange x = Check.town(1, 1, 0);
    Check.text(x, 3, "good 0 by 0;");
    c.fine(x, 0, "asks " + e + ";", 1);
    return x.goodOf(0, 3);
  }
  /** Whether B is so. */
  private static boolean isSo(String b) {
    LarkExchange x = Check.town(1, 1, 0);
    c.fine(x, 0, "rises 7 when " + b + "; rises 8;", 2);
    return x.of(0, 5) == 7;
  }

  private static void p13Law() {
    c.sentence(13, "E = T {(+ | -) T}.");
    c.due("from the left", asked("20-7-3"), 10);
    c.due("plus and minus", asked("20-7+3"), 16);
    c.due("by parts of parts", asked("2+3*4"), 14);
    c.due("a product ahead", asked("3*4+2"), 14);
    c.due("minus a product", asked("50-3*4-2*5"), 28);
    c.due("a quotient behind", asked("9-8/3"), 7);
    c.sentence(13, "T = U {* U | / NUMBER}.");
    c.due("from the left", asked("99/10/2*3"), 12);
    c.due("times ahead of by", asked("7*3/2"), 10);
    c.sentence(13, "Ints, which wrap; / goes towards 0.");
    c.due("wraps", asked("9999*9999*43/9999/10"), 41);
    c.due("wraps below", asked("0-9999*9999*22"), 999);
    c.due("a sum wraps", asked("8192*8192*16+8192*8192*16"), 1);
    c.due("a difference wraps", asked("0-8192*8192*16-8192*8192*16-1"), 999);
    // 8192 * 8192 * 32 is the least int: by 9999 it is -214769 towards 0, and -214770 downwards
    c.due("the least int by 9999", asked("8192*8192*32/9999+9999*21+4790+5"), 5);
    c.due("the least int by 1", asked("8192*8192*32/1+8192*8192*16+8192*8192*16+7"), 7);
    c.sentence(13, "B = A {or A}.");
    c.due("or", isSo("1=2 or 1=1"), true);
    c.due("or of none", isSo("1=2 or 2=1"), false);
    c.due("or of three", isSo("1=2 or 2=1 or 3=3"), true);
    c.sentence(13, "A = C {and C}.");
    c.due("and", isSo("1=1 and 2=2"), true);
    c.due("and of one that is not", isSo("1=1 and 2=1"), false);
    c.due("and binds closer behind or", isSo("1=1 or 1=1 and 1=2"), true);
    c.due("and binds closer ahead of or", isSo("1=2 and 1=1 or 1=1"), true);
    c.due("brackets", isSo("(1=1 or 1=1) and 1=2"), false);
    c.sentence(13, "C = E (< | = | >) E | not C | ( B ).");
    c.due("less", isSo("1<2"), true);
    c.due("not less if alike", isSo("2<2"), false);
    c.due("not less", isSo("3<2"), false);
    c.due("alike", isSo("2=2"), true);
    c.due("not alike", isSo("2=3"), false);
    c.due("more", isSo("3>2"), true);
    c.due("not more if alike", isSo("2>2"), false);
    c.due("not more", isSo("1>2"), false);
    c.due("below 0 is less", isSo("0-1<0"), true);
    c.due("the greatest int is more than the least", isSo("8192*8192*32-1>8192*8192*32"), true);
    c.due("not", isSo("not 1=2"), true);
    c.due("not not", isSo("not not 1=2"), false);
    c.due("not of what is alike", isSo("not 1=1"), false);
    c.due("not of what is less", isSo("not 1<2"), false);
    c.due("not of what is more", isSo("not 2>1"), false);
    c.due("all three and", isSo("1<2 and 2=2 and 3>2"), true);
    c.due("all three or", isSo("2<1 or 2=1 or 2>3"), false);
    c.due("not of one alone", isSo("not 1=2 and 1=2"), false);
    c.due("not of one alone with or", isSo("not 1=1 or 1=1"), true);
    c.due("not of brackets", isSo("not (1=2 and 1=2)"), true);
    c.due("eight deep", isSo("not(not(not(not(1=1))))"), true);
    String deep = "2+3*4-1*2=12+0*9";
    for (int i = 0; i < 8; i++) deep = "1=2 or 1=1 and (" + deep + ")";
    c.due("much that waits", isSo(deep), true);
    c.due("much that waits, and is not so", isSo(deep.replace("=12", "=13")), false);
  }

  private static void p13Lines() {
    c.sentence(13, "E of the first line with that word whose B is so, or that has none");
    LarkExchange x = Check.town(1, 1, 0);
    Check.text(x, 3, "good 0 by 0;");
    c.fine(x, 0, "rises 1 when 2<1; falls 5; rises 2 when 2>1; rises 3; asks 6; rises 4;", 6);
    c.due("the first that is so", x.of(0, 5), 2);
    c.due("another word", x.of(0, 6), 5);
    c.due("a third word", x.goodOf(0, 3), 6);
    c.fine(x, 0, "rises 1; rises 2 when 1=1;", 2);
    c.due("the first that has none", x.of(0, 5), 1);
    c.fine(x, 0, "asks 1 when 1=2; ".repeat(15) + "asks 77;", 16);
    c.due("the sixteenth", x.goodOf(0, 3), 77);
    c.fine(x, 0, "asks 1 when 1=2; ".repeat(16), 16);
    c.due("none of sixteen", x.goodOf(0, 3), 10);
    c.fine(x, 0, "asks 1 when 1=2; asks 33;", 2);
    c.fine(x, 0, "asks 1 when 1=2;", 1);
    c.due("none of what was told ahead", x.goodOf(0, 3), 10);
    c.fine(x, 0, "rises 7 when not 1=2;", 1);
    c.fine(x, 0, "rises 7 when 1=1;", 1);
    c.due("no not of what was told ahead", x.of(0, 5), 7);
    c.fine(x, 0, "rises 7 when 1=2 or 1=1 and 1=1;", 1);
    c.fine(x, 0, "rises 9;", 1);
    c.due("no condition of what was told ahead", x.of(0, 5), 9);
    c.sentence(13, "(none: rises: 5 and voice, falls: 100 and 100 times scared less 10 times voice, asks: base and height by 10)");
    c.fine(x, 0, "rises 1 when 1=2; falls 1 when 1=2; asks 1 when 1=2;", 3);
    int[] voices = {0, 9, 0, 9};
    int[] scared = {0, 0, 9, 9};
    int[] falls = {100, 10, 1000, 910};
    for (int i = 0; i < 4; i++) {
      x.set(0, 0, voices[i]);
      x.set(2, 0, scared[i]);
      c.due("rises", x.of(0, 5), 5 + voices[i]);
      c.due("falls", x.of(0, 6), falls[i]);
    }
    int[] heights = {0, 9, 10, 19, 999};
    int[] asks = {10, 10, 11, 11, 109};
    for (int i = 0; i < 5; i++) {
      x.set(1, 0, heights[i]);
      c.due("asks at " + heights[i], x.goodOf(0, 3), asks[i]);
    }
    c.sentence(13, "rises (of a LARK) held to 0 .. 99, falls (of a LARK) to 0 .. 1000, asks (of a GOOD and its LARK) to 1 .. 999");
    String[] told = {"0-1", "0", "1", "2", "98", "99", "100", "998", "999", "1000", "1001", "9999", "0-9999*9999"};
    int[] comes = {-1, 0, 1, 2, 98, 99, 100, 998, 999, 1000, 1001, 9999, -9999};
    for (int i = 0; i < told.length; i++) {
      LarkExchange y = Check.town(1, 1, 0);
      Check.text(y, 0, "rises " + told[i] + "; falls " + told[i] + "; asks " + told[i] + ";");
      c.due("rises " + told[i], y.of(0, 5), Math.max(0, Math.min(99, comes[i])));
      c.due("falls " + told[i], y.of(0, 6), Math.max(0, Math.min(1000, comes[i])));
      c.due("asks " + told[i], y.goodOf(0, 3), Math.max(1, Math.min(999, comes[i])));
    }
  }

  private static void p13Words() {
    c.sentence(13, "U = NUMBER | voice | height | top | scared | wind | minute | base | lost | day.");
    c.due("the greatest number", asked("9999-9000"), 999);
    c.due("the least number", asked("0+5"), 5);
    c.due("noughts ahead", asked("0012"), 12);
    c.sentence(13, "voice, height, top, scared, lost: the LARK's (a GOOD by none: 0); wind; minute: which of the dawn's, from 0 (asks: 0); base: the GOOD's (rises, falls: 0); day.");
    LarkExchange x = Check.town(2, 2, 0);
    Check.text(x, 0, "rises 20; falls 0;");
    x.days(2);
    Check.text(x, 3, "good 0 by 1;");
    x.set(0, 1, 4);
    x.set(1, 1, 55);
    x.set(2, 1, 6);
    x.set(6, 0, 7);
    x.set(3, 0, 33);
    x.set(3, 1, 44);
    String[] words = {"voice", "height", "top", "scared", "wind", "minute", "base", "lost", "day"};
    int[] ofLark = {4, 55, 600, 6, 7, 0, 0, 1, 2};
    int[] ofGood = {4, 55, 600, 6, 7, 0, 33, 1, 2};
    int[] ofOther = {0, 0, 0, 0, 7, 0, 44, 0, 2};
    for (int i = 0; i < words.length; i++) {
      Check.text(x, 0, "rises " + words[i] + "/10+5; falls " + words[i] + "+5; asks " + words[i] + "+5;");
      c.due("rises by " + words[i], x.of(1, 5), ofLark[i] / 10 + 5);
      c.due("falls by " + words[i], x.of(1, 6), ofLark[i] + 5);
      c.due("asks by " + words[i], x.goodOf(0, 3), ofGood[i] + 5);
      c.due("asks of a good by none by " + words[i], x.goodOf(1, 3), ofOther[i] + 5);
    }
  }

  private static void p13() {
    c.sentence(13, "Of a LARK what 0 VOICE, 1 HEIGHT, 2 TOP, 3 LOST, 4 SCARED, 5 rises, 6 falls (both of minute 0), 7 the GOODS by it (a set).");
    LarkExchange x = new LarkExchange();
    for (int i = 0; i < 6; i++) x.lark(i);
    for (int i = 0; i < 8; i++) x.good(5);
    Check.text(x, 3, "good 7 by 5; good 0 by 5; good 3 by 4;");
    c.due("the first and the last good", x.of(5, 7), 128 + 1);
    c.due("one", x.of(4, 7), 8);
    c.due("none", x.of(0, 7), 0);
    Check.text(x, 3, "good 7 by 0;good 6 by 0;good 5 by 0;good 4 by 0;good 3 by 0;good 2 by 0;good 1 by 0;good 0 by 0;");
    c.due("all", x.of(0, 7), 255);
    c.due("none by another then", x.of(5, 7), 0);
    Check.text(x, 0, "rises 1 when minute = 0; rises 9; falls 2 when minute = 0; falls 9;");
    c.due("rises of minute 0", x.of(5, 5), 1);
    c.due("falls of minute 0", x.of(5, 6), 2);
    c.sentence(13, "NONE if there is none such, or another what.");
    int[] none = {-1, 6, FAR_DOWN, FAR_UP};
    for (int lark : none) for (int w = 0; w <= 7; w++) c.due("of " + lark + " what " + w, x.of(lark, w), -1);
    int[] others = {-1, 8, FAR_DOWN, FAR_UP};
    for (int w : others) c.due("what " + w, x.of(5, w), -1);
    LarkExchange y = Check.town(1, 0, 0);
    c.due("the second of one", y.of(1, 0), -1);
    c.due("the first of one", y.of(0, 0), 3);
  }

  private static void p14() {
    c.sentence(14, "Of a GOOD what 0 BASE, 1 BY, 2 PRICE, 3 asks, 4 how much of it all have.");
    LarkExchange x = Check.town(1, 8, 10);
    x.set(3, 7, 12);
    x.set(4, 7, 1);
    Check.text(x, 3, "good 7 by 0;");
    x.act(0, 0, 7);
    x.act(0, 9, 7);
    x.act(0, 9, 7);
    x.act(0, 9, 6);
    int[] of = {12, 0, 1, 12, 3};
    for (int w = 0; w <= 4; w++) c.due("what " + w, x.goodOf(7, w), of[w]);
    c.due("how much of another", x.goodOf(6, 4), 1);
    c.due("none has any", x.goodOf(0, 4), 0);
    c.due("by none", x.goodOf(0, 1), -1);
    c.sentence(14, "NONE - 1 if there is none such, or another what.");
    int[] none = {-1, 8, FAR_DOWN, FAR_UP};
    for (int good : none) for (int w = 0; w <= 4; w++) c.due("of " + good + " what " + w, x.goodOf(good, w), -2);
    int[] others = {-1, 5, FAR_DOWN, FAR_UP};
    for (int w : others) c.due("what " + w, x.goodOf(7, w), -2);
    LarkExchange y = Check.town(0, 1, 0);
    c.due("the second of one", y.goodOf(1, 0), -2);
  }

  private static void p15() {
    c.sentence(15, "Of a TRADER what 0 PURSE, 1 RUINED, 2 WORTH, 10 + g STOCK of GOOD g.");
    LarkExchange x = Check.town(0, 8, 10);
    x.act(0, 9, 7);
    x.act(0, 9, 7);
    x.act(0, 9, 0);
    x.set(5, 0, 5);
    x.days(1);
    x.set(4, 7, 999);
    x.set(4, 0, 3);
    c.due("purse", x.who(9, 0), 70);
    c.due("ruined", x.who(0, 1), 1);
    c.due("not ruined", x.who(9, 1), 0);
    c.due("stock of the first", x.who(9, 10), 1);
    c.due("stock of the last", x.who(9, 17), 2);
    c.due("of another none", x.who(9, 11), 0);
    c.sentence(15, "WORTH of a TRADER: PURSE and what his STOCK is at PRICES now.");
    c.due("worth", x.who(9, 2), 70 + 2 * 999 + 3);
    c.due("worth of the ruined", x.who(0, 2), 5);
    c.due("worth without stock", x.who(1, 2), 100);
    c.sentence(15, "NONE - 9 if there is none such, or another what.");
    int[] none = {-1, 10, FAR_DOWN, FAR_UP};
    for (int trader : none) for (int w = 0; w <= 17; w++) c.due("of " + trader + " what " + w, x.who(trader, w), -10);
    int[] others = {-1, 3, 4, 5, 6, 7, 8, 9, 18, 19, FAR_DOWN, FAR_UP};
    for (int w : others) c.due("what " + w, x.who(9, w), -10);
    LarkExchange y = Check.town(0, 1, 1);
    c.due("stock of the only good", y.who(0, 10), 0);
    c.due("of a good that there is not", y.who(0, 11), -10);
    c.due("the second of one", y.who(1, 0), -10);
  }

  private static void p16() {
    c.sentence(16, "Of line i of THE BOOK what 0 DAY, 1 what, 2 who, 3 how much. NONE - 9 if there is none such, or another what.");
    LarkExchange x = Check.town(0, 1, 1);
    int[] far = {-1, 0, 149, 150, FAR_DOWN, FAR_UP};
    for (int i : far) for (int w = 0; w < 4; w++) c.due("no line " + i, x.book(i, w), -10);
    x.act(0, 0, 0);
    int[] line = {0, 2, 0, 1};
    for (int w = 0; w < 4; w++) c.due("the line " + w, x.book(0, w), line[w]);
    int[] then = {-1, 1, 150, FAR_DOWN, FAR_UP};
    for (int i : then) c.due("line " + i, x.book(i, 0), -10);
    int[] others = {-1, 4, FAR_DOWN, FAR_UP};
    for (int w : others) c.due("what " + w, x.book(0, w), -10);
    x.undo();
    c.due("undone", x.book(0, 0), -10);
  }

  private static void p17() {
    c.sentence(17, "GOES what 0 PRICES, 1 PURSES, 2 LOST, 3 RUINED. NONE - 99 if one can't be, or another what.");
    LarkExchange x = Check.town(2, 2, 3);
    int[] beyond = {0, -1, 61, FAR_DOWN, FAR_UP};
    for (int n : beyond) for (int w = 0; w <= 3; w++) c.due("days " + n, x.goes(n, w), -100);
    int[] others = {-1, 4, FAR_DOWN, FAR_UP};
    for (int w : others) c.due("what " + w, x.goes(1, w), -100);
    c.sentence(17, "GOES for n (1 .. 60) DAYS: PRICES of all GOODS, PURSES of all, LOST, RUINED (how many) then.");
    Check.text(x, 0, "rises 99; falls 0 when day = 59; falls 1000; asks day+1;");
    c.due("prices behind one", x.goes(1, 0), 2);
    c.due("prices behind 59", x.goes(59, 0), 118);
    c.due("lost behind 59", x.goes(59, 2), 0);
    c.due("prices behind 60", x.goes(60, 0), 120);
    c.due("lost behind 60, two", x.goes(60, 2), 2);
    x.set(5, 0, 59);
    x.set(5, 2, 0);
    c.due("purses", x.goes(60, 1), 159);
    c.due("ruined behind one", x.goes(1, 3), 1);
    c.due("ruined behind 59", x.goes(59, 3), 1);
    c.due("ruined behind 60, two", x.goes(60, 3), 2);
    c.sentence(17, "IN THOUGHT (nothing of it stays; no DRAWS: it falls, if falls is 500 at least).");
    Check.text(x, 0, "rises 30; falls 499;");
    c.due("does not fall at 499", x.goes(1, 2), 2);
    Check.text(x, 0, "rises 30; falls 500;");
    c.due("falls at 500", x.goes(1, 2), 0);
    Check.text(x, 0, "rises 30; falls 499 when minute < 29; falls 500;");
    c.due("falls at 500 in the last minute", x.goes(1, 2), 0);
    Check.text(x, 0, "rises 30; falls 499; asks 9;");
    Check.text(x, 1, "on 0 wind 5; on 0 boy 0 3;");
    Check.text(x, 2, "on 0 trader 1 buy 1 of 0;");
    x.state(99);
    x.goes(60, 0);
    int[] look = {2, 2, 3, 0, 0, 0, 0, 0, 99, 3, 2, 1, 0, 0};
    // lines of the law 3, of dawns 2, of trades 1; all else as it was
    for (int w = 0; w <= 13; w++) c.due("nothing stays " + w, x.look(w), look[w]);
    c.due("nor a height", x.of(0, 1) + x.of(0, 2) + x.of(0, 3) + x.of(0, 4), 0);
    c.due("nor a price", x.goodOf(0, 2), 10);
    c.due("nor a stock", x.who(1, 10) + x.who(1, 0), 100);
    x.days(1);
    int undone = x.look(13);
    x.goes(5, 1);
    c.due("what can be undone stays", x.look(13), undone);
    c.due("a thing undone behind a thought", x.undo(), true);
  }

  private static void p18() {
    c.sentence(18, "RUIN; NONE, too, if there is none such.");
    LarkExchange x = Check.town(0, 1, 2);
    int[] none = {-1, 2, 10, FAR_DOWN, FAR_UP};
    for (int trader : none) c.due("of " + trader, x.ruin(trader), -1);
    c.sentence(18, "behind how many DAYS he is RUINED (0: now; NONE: not within 60)");
    c.due("not at all", x.ruin(0), -1);
    int[] days = {1, 2, 59, 60};
    for (int d : days) {
      Check.text(x, 0, "asks 9 when day < " + (d - 1) + "; asks 999;");
      c.due("behind " + d, x.ruin(1), d);
    }
    Check.text(x, 0, "asks 9 when day < 60; asks 999;");
    c.due("behind 61", x.ruin(1), -1);
    c.due("nothing stays", x.look(6) + x.look(5) + x.look(7), 0);
    x.days(1);
    c.due("behind 60 from the next day on", x.ruin(1), 60);
    x.set(5, 1, 5);
    x.days(1);
    c.due("now", x.ruin(1), 0);
    c.due("the other is not", x.ruin(0), 59);
    x.set(5, 1, 9999);
    c.due("now, for good", x.ruin(1), 0);
    LarkExchange y = Check.town(1, 1, 1);
    Check.text(y, 3, "good 0 by 0;");
    Check.text(y, 0, "rises 10; falls 500 when day = 4 and height = 150; falls 499; asks height;");
    y.set(5, 0, 299);
    c.due("by thought it does not fall", y.ruin(0), 1);
    y.set(5, 0, 300);
    c.due("the purse is enough", y.ruin(0), -1);
    Check.text(y, 2, "on 4 trader 0 buy 1 of 0; on 5 trader 0 sell 1 of 0;");
    c.due("by a trade, back for more", y.ruin(0), -1);
    Check.text(y, 2, "on 4 trader 0 buy 1 of 0; on 5 trader 0 buy 1 of 0;");
    c.due("with stock he is not ruined", y.ruin(0), -1);
    Check.text(y, 2, "on 3 trader 0 buy 1 of 0; on 4 trader 0 sell 1 of 0;");
    c.due("bought dear, sold cheap: not ruined then", y.goes(4, 3), 0);
    c.due("150 left, and it asks as much", y.ruin(0), 6);
  }

  private static void p39() {
    c.sentence(39, "NONE - 99999 for another what. (STATE as it is.)");
    LarkExchange x = Check.town(2, 2, 2);
    int[] others = {-1, 14, 100, FAR_DOWN, FAR_UP};
    for (int w : others) c.due("what " + w, x.look(w), -100000);
    x.state(-100000);
    c.due("STATE as it is", x.look(8), -100000);
    x.state(-1);
    c.due("STATE -1", x.look(8), -1);
    c.sentence(39, "4 those LOST (a set), 5 those RUINED (a set)");
    LarkExchange y = Check.town(6, 1, 10);
    y.set(0, 5, 9);
    y.set(0, 2, 9);
    y.set(5, 9, 0);
    y.set(5, 0, 0);
    Check.text(y, 0, "rises 50 when voice = 9; rises 1; falls 0;");
    y.days(1);
    c.due("the third and the last lark", y.look(4), 32 + 4);
    c.due("the first and the last trader", y.look(5), 512 + 1);
    c.sentence(39, "9 lines of THE LAW, 10 of DAWNS, 11 of TRADES, 12 of BOUND");
    Check.text(y, 0, "asks 1;".repeat(16));
    Check.text(y, 1, "on 1 wind 1;".repeat(16));
    Check.text(y, 2, "on 1trader 1buy 1of 0;".repeat(16));
    Check.text(y, 3, "good 0 by 0;".repeat(16));
    for (int w = 9; w <= 12; w++) c.due("sixteen lines " + w, y.look(w), 16);
    c.sentence(39, "13 what can be undone");
    LarkExchange z = Check.town(1, 1, 1);
    int[] kept = {1, 2, 3, 4, 5, 6, 6, 6};
    for (int n : kept) {
      z.days(1);
      c.due("kept", z.look(13), n);
    }
    for (int n = 5; n >= 0; n--) {
      z.undo();
      c.due("left", z.look(13), n);
    }
  }

  public static void main(String[] args) {
    p13Law(); p13Lines(); p13Words(); p13(); p14(); p15(); p16(); p17(); p18(); p39();
    c.namesAll(13, 18);
    c.namesAll(39, 39);
    c.ends();
  }
}
