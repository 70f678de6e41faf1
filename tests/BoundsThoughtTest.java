/** The boundary cases of promises 19 to 36, sentence by sentence: what is told for thought, and its answers. */
public final class BoundsThoughtTest {
  private static final Check c = new Check();
  private static final int FAR_DOWN = Integer.MIN_VALUE;
  private static final int FAR_UP = Integer.MAX_VALUE;

  private static LarkExchange row(int... prices) {
    LarkExchange x = new LarkExchange();
    for (int v : prices) x.price(v);
    return x;
  }

  private static void p19() {
    LarkExchange x = new LarkExchange();
    c.sentence(19, "A price for TRADING (NONE: none is then): how many; NONE if one can't be, or there are fourteen.");
    int[] wrong = {0, 100, -2, FAR_DOWN, FAR_UP};
    for (int v : wrong) c.due("price " + v, x.price(v), -1);
    c.due("none was told", x.row(0), -1);
    c.due("none of none", x.price(-1), 0);
    for (int i = 1; i <= 14; i++) c.due("how many", x.price(i == 14 ? 99 : i), i);
    c.due("a fifteenth", x.price(50), -1);
    for (int v : wrong) c.due("full, price " + v, x.price(v), -1);
    c.sentence(19, "TRADING: a told row of up to 14 prices (1 .. 99)");
    c.due("the row is as it was", x.window(1, 0), 99);
    c.due("where", x.window(1, 1), 13);
    c.due("none is then", x.price(-1), 0);
    c.due("none", x.window(1, 1), -1);
    c.due("the first again", x.price(1), 1);
    c.due("the row of one", x.row(4), 1);
    c.sentence(19, "(NONE: none is then)");
    LarkExchange anew = row(50, 60, 40, 99, 1, 98, 97, 99, 3, 2, 1, 5, 9, 7);
    anew.price(-1);
    int[] fewer = {30, 20};
    for (int v : fewer) anew.price(v);
    LarkExchange fresh = row(fewer);
    for (int w = 0; w <= 4; w++) c.due("of the row told ahead nothing, row " + w, anew.row(w), fresh.row(w));
    for (int k = 1; k <= 5; k++)
      for (int w = 0; w <= 1; w++) {
        c.due("nor for a window", anew.window(k, w), fresh.window(k, w));
        c.due("nor for trading", anew.trading(k, w), fresh.trading(k, w));
      }
    c.due("the least price", x.row(0), 1);
  }

  private static void p20() {
    c.sentence(20, "NONE if k can't be, or another what.");
    LarkExchange x = row(1, 9);
    int[] wrongK = {0, -1, 6, FAR_DOWN, FAR_UP};
    for (int k : wrongK) for (int w = 0; w <= 1; w++) c.due("k " + k, x.trading(k, w), -1);
    int[] others = {-1, 2, FAR_DOWN, FAR_UP};
    for (int w : others) c.due("what " + w, x.trading(1, w), -1);
    c.sentence(20, "one is bought at one of them and sold at a later one, k (1 .. 5) times at most, one after another (sold and bought again at one of them, too): the most there is to gain; by how few times (nothing to gain: 0).");
    int[][] rows = {{}, {50}, {9, 9}, {9, 8, 1}, {1, 2}, {99, 1, 99}, {1, 5, 9}, {1, 5, 5, 9, 2, 4}, {5, 9, 1, 3, 1, 3},
        {1, 99, 1, 99, 1, 99, 1, 99, 1, 99, 1, 99, 1, 99}, {1, 3, 2, 4}, {3, 5, 1, 2, 4, 3, 3}};
    int[][] most = {{0, 0, 0, 0, 0}, {0, 0, 0, 0, 0}, {0, 0, 0, 0, 0}, {0, 0, 0, 0, 0}, {1, 1, 1, 1, 1}, {98, 98, 98, 98, 98},
        {8, 8, 8, 8, 8}, {8, 10, 10, 10, 10}, {4, 6, 8, 8, 8}, {98, 196, 294, 392, 490}, {3, 4, 4, 4, 4}, {3, 5, 5, 5, 5}};
    int[][] times = {{0, 0, 0, 0, 0}, {0, 0, 0, 0, 0}, {0, 0, 0, 0, 0}, {0, 0, 0, 0, 0}, {1, 1, 1, 1, 1}, {1, 1, 1, 1, 1},
        {1, 1, 1, 1, 1}, {1, 2, 2, 2, 2}, {1, 2, 3, 3, 3}, {1, 2, 3, 4, 5}, {1, 2, 2, 2, 2}, {1, 2, 2, 2, 2}};
    for (int i = 0; i < rows.length; i++) {
      LarkExchange y = row(rows[i]);
      for (int k = 1; k <= 5; k++) {
        c.due("row " + i + " the most by " + k, y.trading(k, 0), most[i][k - 1]);
        c.due("row " + i + " how few by " + k, y.trading(k, 1), times[i][k - 1]);
      }
    }
  }

  private static void p21() {
    c.sentence(21, "money a to b (0 .. 3, unlike): n of b for d of a, nd is 10 times n and d (0: there is no way any more): true; false if one can't be.");
    LarkExchange x = new LarkExchange();
    int[] wrongMoney = {-1, 4, FAR_DOWN, FAR_UP};
    for (int m : wrongMoney) {
      c.due("a " + m, x.change(m, 0, 11), false);
      c.due("b " + m, x.change(0, m, 11), false);
      c.due("a " + m + " taken away", x.change(m, 0, 0), false);
    }
    for (int m = 0; m < 4; m++) c.due("alike " + m, x.change(m, m, 11), false);
    c.due("alike, taken away", x.change(1, 1, 0), false);
    c.due("none to take away", x.change(0, 1, 0), true);
    for (int nd = -30; nd <= 130; nd++)
      c.due("nd " + nd, x.change(0, 1, nd), nd == 0 || nd >= 11 && nd <= 99 && nd % 10 != 0);
    int[] far = {FAR_DOWN, FAR_UP, 1011, -11};
    for (int nd : far) c.due("nd " + nd, x.change(0, 1, nd), false);
    c.sentence(21, "told changes among moneys 0 .. 3: for d of a one gets n of b (n, d 1 .. 9; none at first)");
    c.due("no way at first", new LarkExchange().round(0, 0), -1);
    LarkExchange y = new LarkExchange();
    y.change(0, 3, 91);
    y.change(3, 0, 89);
    c.due("n above", y.round(0, 0), 8);
    c.due("d below", y.round(0, 1), 1);
    c.due("refused", y.change(0, 3, 90), false);
    c.due("stays", y.round(0, 0), 8);
    y.change(0, 3, 19);
    c.due("told again", y.round(0, 0), 8);
    c.due("told again, below", y.round(0, 1), 81);
    y.change(0, 3, 0);
    c.due("no way any more", y.round(0, 0), -1);
  }

  private static void p22() {
    c.sentence(22, "the most that 1 of a comes to by a way round, from a by one, two or three others, each once, back to a: as a fraction in lowest terms (NONE: there is no way round).");
    LarkExchange x = new LarkExchange();
    x.change(0, 1, 42);
    c.due("there, not back", x.round(0, 0), -1);
    x.change(1, 0, 26);
    c.due("by one", x.round(0, 0), 2);
    c.due("in lowest terms", x.round(0, 1), 3);
    c.due("from the other", x.round(1, 0), 2);
    c.due("not from a third", x.round(2, 0), -1);
    x.change(1, 2, 31);
    x.change(2, 0, 13);
    c.due("by two", x.round(0, 0), 2);
    c.due("by two, below", x.round(0, 1), 1);
    x.change(2, 3, 98);
    x.change(3, 0, 88);
    c.due("by three", x.round(0, 0), 27);
    c.due("by three, below", x.round(0, 1), 4);
    c.due("from the third, the same way", x.round(2, 0), 27);
    c.due("not twice round", x.round(1, 1), 4);
    LarkExchange y = new LarkExchange();
    y.change(0, 1, 91);
    y.change(1, 0, 91);
    y.change(0, 2, 12);
    y.change(2, 0, 11);
    c.due("each once: not by the dear way between", y.round(2, 0), 1);
    c.due("each once, below", y.round(2, 1), 2);
    c.due("the most of several", y.round(0, 0), 81);
    int[][] ways = {{32, 43}, {43, 32}, {98, 87}, {87, 98}, {11, 12}, {12, 11}, {53, 95}, {95, 53}};
    int[][] greater = {{3, 2}, {3, 2}, {8, 7}, {8, 7}, {1, 1}, {1, 1}, {9, 5}, {9, 5}};
    for (int i = 0; i < ways.length; i++) {
      LarkExchange z = new LarkExchange();
      z.change(0, 1, ways[i][0]);
      z.change(1, 0, 11);
      z.change(0, 2, ways[i][1]);
      z.change(2, 0, 11);
      c.due("the greater of two ways, above", z.round(0, 0), greater[i][0]);
      c.due("the greater of two ways, below", z.round(0, 1), greater[i][1]);
    }
    LarkExchange all = new LarkExchange();
    for (int a = 0; a < 4; a++) for (int b = 0; b < 4; b++) if (a != b) all.change(a, b, 91);
    c.due("the most there can be", all.round(3, 0), 6561);
    c.due("whole", all.round(3, 1), 1);
    for (int a = 0; a < 4; a++) for (int b = 0; b < 4; b++) if (a != b) all.change(a, b, 19);
    c.due("the least: by one alone", all.round(3, 1), 81);
    c.sentence(22, "NONE, too, if one can't be, or another what.");
    int[] wrong = {-1, 4, FAR_DOWN, FAR_UP};
    for (int a : wrong) c.due("from " + a, all.round(a, 0), -1);
    int[] others = {-1, 2, FAR_DOWN, FAR_UP};
    for (int w : others) c.due("what " + w, all.round(0, w), -1);
  }

  private static void p23() {
    LarkExchange x = new LarkExchange();
    c.sentence(23, "PARTS of a by b (1 .. 12 each, a less than b): the greatest 1 by n that is not more than what is left is taken off, till nothing is left: how many times; the i-th n (i 0 .. 3; NONE: none such).");
    int[][] known = {{1, 2, 1, 2, -1, -1, -1}, {1, 12, 1, 12, -1, -1, -1}, {11, 12, 3, 2, 3, 12, -1}, {10, 11, 4, 2, 3, 14, 231},
        {6, 12, 1, 2, -1, -1, -1}, {5, 7, 3, 2, 5, 70, -1}, {8, 11, 4, 2, 5, 37, 4070}, {2, 3, 2, 2, 6, -1, -1}};
    for (int[] one : known) for (int w = 0; w <= 4; w++) c.due(one[0] + " by " + one[1] + " what " + w, x.parts(one[0], one[1], w), one[2 + w]);
    c.sentence(23, "NONE, too, if one can't be, or another what.");
    int[] wrong = {0, -1, 13, FAR_DOWN, FAR_UP};
    for (int v : wrong) {
      c.due("a " + v, x.parts(v, 12, 0), -1);
      c.due("b " + v, x.parts(1, v, 0), -1);
    }
    for (int v = 1; v <= 12; v++) {
      c.due("alike " + v, x.parts(v, v, 0), -1);
      c.due("not less " + v, x.parts(v, v - 1, 0), -1);
    }
    int[] others = {-1, 5, FAR_DOWN, FAR_UP};
    for (int w : others) c.due("what " + w, x.parts(10, 11, w), -1);
  }

  private static void p24() {
    LarkExchange x = new LarkExchange();
    c.sentence(24, "a (1 .. 60) loaves laid side by side as one, cut at each loaf's end and at each of n (1 .. 60) people's, who have as much each: how many pieces; how much each has as a fraction in lowest terms.");
    int[][] known = {{1, 1, 1, 1, 1}, {1, 60, 60, 1, 60}, {60, 1, 60, 60, 1}, {60, 60, 60, 1, 1}, {59, 60, 118, 59, 60}, {6, 4, 8, 3, 2}, {60, 59, 118, 60, 59}, {45, 60, 90, 3, 4}};
    for (int[] one : known) for (int w = 0; w <= 2; w++) c.due(one[0] + " for " + one[1] + " what " + w, x.loaves(one[0], one[1], w), one[2 + w]);
    c.sentence(24, "NONE if one can't be, or another what.");
    int[] wrong = {0, -1, 61, FAR_DOWN, FAR_UP};
    for (int v : wrong) {
      c.due("a " + v, x.loaves(v, 5, 0), -1);
      c.due("n " + v, x.loaves(5, v, 0), -1);
    }
    int[] others = {-1, 3, FAR_DOWN, FAR_UP};
    for (int w : others) c.due("what " + w, x.loaves(5, 5, w), -1);
  }

  private static void p25() {
    LarkExchange x = new LarkExchange();
    c.sentence(25, "digits 0 .. 9 take 6, 2, 5, 5, 4, 5, 6, 3, 7, 6 sticks: how many a number (0 .. 99999) takes");
    int[] takes = {6, 2, 5, 5, 4, 5, 6, 3, 7, 6};
    for (int v = 0; v <= 9; v++) c.due("takes " + v, x.sticks(v, 0), takes[v]);
    c.due("ten", x.sticks(10, 0), 8);
    c.due("the greatest", x.sticks(99999, 0), 30);
    c.due("with noughts", x.sticks(10000, 0), 26);
    int[] wrong = {-1, 100000, FAR_DOWN, FAR_UP};
    for (int v : wrong) c.due("takes " + v, x.sticks(v, 0), -1);
    c.sentence(25, "the least number of n (2 .. 42) sticks just (0 itself can be one, else without a 0 ahead).");
    int[] least = {1, 7, 4, 2, 0, 8, 10, 18, 22, 20, 28, 68, 88, 108, 188, 200, 208, 288, 688, 888};
    for (int i = 0; i < least.length; i++) c.due("of " + (i + 2), x.sticks(i + 2, 1), least[i]);
    c.due("of 36", x.sticks(36, 1), 108888);
    c.due("of 41", x.sticks(41, 1), 688888);
    c.due("of 42", x.sticks(42, 1), 888888);
    int[] beyond = {1, 0, -1, 43, FAR_DOWN, FAR_UP};
    for (int v : beyond) c.due("of " + v, x.sticks(v, 1), -1);
    c.sentence(25, "NONE, too, if one can't be, or another what.");
    int[] others = {-1, 2, FAR_DOWN, FAR_UP};
    for (int w : others) c.due("what " + w, x.sticks(5, w), -1);
  }

  private static void p26() {
    LarkExchange x = new LarkExchange();
    c.sentence(26, "n (-9999 .. 9999) by digits 0, 1 times 1, -2, 4, -8, ..: how many digits (0: 1); that as bits, read as usual.");
    int[][] known = {{0, 1, 0}, {1, 1, 1}, {-1, 2, 3}, {-2, 2, 2}, {2, 3, 6}, {3, 3, 7}, {4, 3, 4}, {5, 3, 5}, {6, 5, 26}, {-10, 4, 10}, {-3, 4, 13}};
    for (int[] one : known) {
      c.due("digits of " + one[0], x.twos(one[0], 0), one[1]);
      c.due("bits of " + one[0], x.twos(one[0], 1), one[2]);
    }
    int[] edges = {9999, -9999, 9998, -9998};
    for (int n : edges) {
      int bits = x.twos(n, 1);
      int sum = 0;
      for (int i = 0, times = 1; i < 31; i++, times *= -2) sum += (bits >> i & 1) * times;
      c.due("read by the twos again", sum, n);
      c.due("its digits", x.twos(n, 0), Integer.toBinaryString(bits).length());
    }
    c.sentence(26, "NONE if n can't be, or another what.");
    int[] wrong = {-10000, 10000, FAR_DOWN, FAR_UP};
    for (int n : wrong) for (int w = 0; w <= 1; w++) c.due("n " + n, x.twos(n, w), -1);
    int[] others = {-1, 2, FAR_DOWN, FAR_UP};
    for (int w : others) c.due("what " + w, x.twos(5, w), -1);
  }

  private static void p27() {
    LarkExchange x = new LarkExchange();
    c.sentence(27, "IN WORDS n (0 .. 999): zero one two three four five six seven eight nine ten eleven twelve thirteen fourteen fifteen sixteen seventeen"
        + " eighteen nineteen twenty thirty forty fifty sixty seventy eighty ninety, hundred behind how many (onehundred), then the rest, without a blank and without and: how many letters");
    String[] list = ("zero one two three four five six seven eight nine ten eleven twelve thirteen fourteen fifteen sixteen seventeen eighteen nineteen"
        + " twenty thirty forty fifty sixty seventy eighty ninety").split(" ");
    for (int i = 0; i < list.length; i++) c.due(list[i], x.words(i <= 20 ? i : 10 * (i - 18), 0), list[i].length());
    for (int i = 1; i <= 9; i++) c.due(list[i] + "hundredfortytwo", x.words(100 * i + 42, 0), list[i].length() + 15);
    String[] words = {"zero", "one", "nineteen", "twenty", "twentyone", "ninetynine", "onehundred", "onehundredone", "onehundredten",
        "onehundredtwenty", "ninehundredninetynine", "forty", "ninehundred", "fivehundredthirteen"};
    int[] numbers = {0, 1, 19, 20, 21, 99, 100, 101, 110, 120, 999, 40, 900, 513};
    for (int i = 0; i < words.length; i++) c.due(words[i], x.words(numbers[i], 0), words[i].length());
    c.sentence(27, "which of 0 .. n has most (of several the least).");
    int[] upTo = {0, 1, 2, 3, 6, 7, 10, 11, 12, 13, 16, 17, 22, 23, 72, 73, 100, 101, 103, 372, 373, 999};
    int[] which = {0, 0, 0, 3, 3, 3, 3, 11, 11, 13, 13, 17, 17, 23, 23, 73, 73, 101, 103, 323, 373, 373};
    for (int i = 0; i < upTo.length; i++) c.due("up to " + upTo[i], x.words(upTo[i], 1), which[i]);
    c.sentence(27, "NONE if n can't be, or another what.");
    int[] wrong = {-1, 1000, FAR_DOWN, FAR_UP};
    for (int n : wrong) for (int w = 0; w <= 1; w++) c.due("n " + n, x.words(n, w), -1);
    int[] others = {-1, 2, FAR_DOWN, FAR_UP};
    for (int w : others) c.due("what " + w, x.words(5, w), -1);
  }

  private static void p28() {
    c.sentence(28, "k (1 .. 14) side by side that come to most: that; where they begin (of several the first; NONE: fewer).");
    LarkExchange x = row(5, 1, 4, 2, 5, 1);
    int[] most = {5, 7, 11, 12, 17, 18, 0};
    int[] where = {0, 3, 2, 0, 0, 0, -1};
    for (int k = 1; k <= 7; k++) {
      c.due("most of " + k, x.window(k, 0), most[k - 1]);
      c.due("where of " + k, x.window(k, 1), where[k - 1]);
    }
    c.due("one of the least price", row(1).window(1, 0), 1);
    c.due("where that is", row(1).window(1, 1), 0);
    LarkExchange full = row(99, 99, 99, 99, 99, 99, 99, 99, 99, 99, 99, 99, 99, 99);
    c.due("all fourteen", full.window(14, 0), 1386);
    c.due("from the first", full.window(14, 1), 0);
    c.due("of alike ones the first", full.window(3, 1), 0);
    LarkExchange thirteen = row(1, 1, 1, 1, 1, 1, 1, 1, 1, 1, 1, 1, 2);
    c.due("the last place", thirteen.window(1, 1), 12);
    c.due("fewer than fourteen: where", thirteen.window(14, 1), -1);
    c.sentence(28, "WINDOW what 0 that (fewer: 0), 1 where. NONE, too, if k can't be, or another what.");
    c.due("fewer than fourteen", thirteen.window(14, 0), 0);
    c.due("none told", row().window(1, 0), 0);
    int[] wrong = {0, -1, 15, FAR_DOWN, FAR_UP};
    for (int k : wrong) for (int w = 0; w <= 1; w++) c.due("k " + k, full.window(k, w), -1);
    int[] others = {-1, 2, FAR_DOWN, FAR_UP};
    for (int w : others) c.due("what " + w, full.window(1, w), -1);
  }

  private static void p29() {
    c.sentence(29, "of the row the one in the midst, if it is in order (of an even number the lower one; NONE: none told)");
    c.due("none", row().row(0), -1);
    c.due("one", row(7).row(0), 7);
    c.due("two", row(9, 3).row(0), 3);
    c.due("three", row(9, 3, 5).row(0), 5);
    c.due("four", row(9, 3, 5, 4).row(0), 4);
    c.due("fourteen", row(14, 13, 12, 11, 10, 9, 8, 7, 6, 5, 4, 3, 2, 1).row(0), 7);
    LarkExchange x = row(9, 3, 5);
    x.row(0);
    c.due("the row itself is not put in order", x.window(1, 1), 0);
    c.sentence(29, "how many couples stand the greater one ahead (alike ones not).");
    c.due("none", row().row(1), 0);
    c.due("alike", row(5, 5, 5).row(1), 0);
    c.due("in order", row(1, 2, 3).row(1), 0);
    c.due("the other way", row(14, 13, 12, 11, 10, 9, 8, 7, 6, 5, 4, 3, 2, 1).row(1), 91);
    c.due("some", row(2, 2, 1).row(1), 2);
    c.sentence(29, "how many are greater than all ahead");
    c.due("one", row(1).row(2), 1);
    c.due("alike ones not", row(4, 4, 4).row(2), 1);
    c.due("each", row(1, 2, 3, 4).row(2), 4);
    c.due("going down", row(4, 3, 2).row(2), 1);
    c.due("back up to the greatest", row(4, 3, 4, 5).row(2), 2);
    c.sentence(29, "how many steps it goes up and down together (all that neighbours are apart)");
    c.due("one", row(99).row(3), 0);
    c.due("alike", row(9, 9).row(3), 0);
    c.due("up and down", row(1, 99, 1).row(3), 196);
    c.due("the most", row(1, 99, 1, 99, 1, 99, 1, 99, 1, 99, 1, 99, 1, 99).row(3), 13 * 98);
    c.sentence(29, "the longest run on end that goes up (each greater).");
    c.due("one", row(9).row(4), 1);
    c.due("alike ones", row(9, 9, 9).row(4), 1);
    c.due("going down", row(9, 8, 7).row(4), 1);
    c.due("at the end", row(9, 1, 2, 3).row(4), 3);
    c.due("at the beginning", row(1, 2, 3, 1, 2).row(4), 3);
    c.due("all", row(1, 2, 3, 4, 5, 6, 7, 8, 9, 10, 11, 12, 13, 14).row(4), 14);
    c.due("broken by alike ones", row(1, 2, 2, 3).row(4), 2);
    c.sentence(29, "(none told: 0). NONE, too, for another what.");
    for (int w = 1; w <= 4; w++) c.due("none told " + w, row().row(w), 0);
    int[] others = {-1, 5, FAR_DOWN, FAR_UP};
    for (int w : others) c.due("what " + w, x.row(w), -1);
  }

  private static void p30() {
    LarkExchange x = new LarkExchange();
    c.sentence(30, "n (-12 .. 12) times by three by two up (below 0: down), then by twos brought to 1 at least and below 2: as a fraction in lowest terms.");
    int[][] known = {{0, 1, 1}, {1, 3, 2}, {2, 9, 8}, {3, 27, 16}, {-1, 4, 3}, {-2, 16, 9}, {-3, 32, 27}, {12, 531441, 524288}, {-12, 1048576, 531441}, {11, 177147, 131072}, {-11, 262144, 177147}};
    for (int[] one : known) {
      c.due("above of " + one[0], x.fifths(one[0], 0), one[1]);
      c.due("below of " + one[0], x.fifths(one[0], 1), one[2]);
    }
    c.sentence(30, "NONE if n can't be, or another what.");
    int[] wrong = {-13, 13, FAR_DOWN, FAR_UP};
    for (int n : wrong) for (int w = 0; w <= 1; w++) c.due("n " + n, x.fifths(n, w), -1);
    int[] others = {-1, 2, FAR_DOWN, FAR_UP};
    for (int w : others) c.due("what " + w, x.fifths(1, w), -1);
  }

  private static void p31() {
    LarkExchange x = new LarkExchange();
    c.sentence(31, "A way for CAUGHT (a NONE: none is then): how many; NONE if one can't be (0 .. 7, unlike), or there are fourteen.");
    int[] wrong = {8, -2, FAR_DOWN, FAR_UP};
    for (int v : wrong) {
      c.due("a " + v, x.way(v, 1), -1);
      c.due("b " + v, x.way(1, v), -1);
    }
    c.due("b NONE", x.way(1, -1), -1);
    for (int v = 0; v < 8; v++) c.due("alike " + v, x.way(v, v), -1);
    c.due("none of none", x.way(-1, 0), 0);
    c.due("the greatest and the least place", x.way(7, 0), 1);
    c.due("none again", x.way(-1, 0), 0);
    c.due("the least and the greatest place", x.way(0, 7), 1);
    for (int i = 2; i <= 14; i++) c.due("how many", x.way(i % 7, 7), i);
    c.due("a fifteenth", x.way(1, 2), -1);
    c.due("which does not count", x.caught(1, 2), 2);
    int[] anything = {-1, 0, 9, FAR_DOWN, FAR_UP};
    for (int b : anything) {
      c.due("none is then, whatever b", x.way(-1, b), 0);
      c.due("no way", x.caught(0, 7), -1);
      c.due("the first again", x.way(0, 7), 1);
    }
  }

  private static LarkExchange heath(int... ends) {
    LarkExchange x = new LarkExchange();
    for (int i = 0; i + 1 < ends.length; i += 2) x.way(ends[i], ends[i + 1]);
    return x;
  }
  private static void p32() {
    c.sentence(32, "places 0 .. 7, up to 14 told ways between two (either way): a hawk at a, a lark at b: by turns, the hawk first,"
        + " each goes one way or stays (that is a going, too); it is caught, as soon as both are at one place: behind how many goings of the hawk (of several ways the fewest there can be, the lark putting it off as long as it can; alike: 0; NONE: never).");
    LarkExchange none = heath();
    for (int p = 0; p < 8; p++) c.due("alike", none.caught(p, p), 0);
    c.due("no way", none.caught(0, 1), -1);
    LarkExchange line = heath(0, 1, 1, 2, 2, 3, 3, 4, 4, 5, 5, 6, 6, 7);
    int[] fromEnd = {0, 7, 7, 7, 7, 7, 7, 7};
    for (int b = 0; b < 8; b++) c.due("a row of eight, from its end to " + b, line.caught(0, b), b == 1 ? 1 : fromEnd[b]);
    c.due("from the midst", line.caught(3, 4), 1);
    c.due("from the midst, two off", line.caught(3, 5), 4);
    c.due("either way", line.caught(7, 0), 7);
    LarkExchange four = heath(0, 1, 1, 2, 2, 3, 3, 0);
    c.due("a ring of four, opposite", four.caught(0, 2), -1);
    c.due("a ring of four, beside", four.caught(0, 1), 1);
    LarkExchange three = heath(0, 1, 1, 2, 2, 0);
    c.due("a ring of three", three.caught(0, 2), 1);
    c.due("not to another heath", three.caught(0, 5), -1);
    LarkExchange fork = heath(0, 1, 1, 2, 1, 3, 2, 4, 3, 5);
    c.due("a fork", fork.caught(0, 1), 1);
    c.due("the lark puts it off as long as it can", fork.caught(0, 2), 3);
    c.due("from one end of a fork to the other", fork.caught(4, 5), 4);
    LarkExchange twice = heath(0, 1, 0, 1, 1, 0);
    c.due("a way told three times is one", twice.caught(1, 0), 1);
    c.sentence(32, "NONE, too, if one can't be.");
    int[] wrong = {-1, 8, FAR_DOWN, FAR_UP};
    for (int v : wrong) {
      c.due("a " + v, line.caught(v, 0), -1);
      c.due("b " + v, line.caught(0, v), -1);
      c.due("alike, but none such", line.caught(v, v), -1);
    }
  }

  private static void p33() {
    LarkExchange x = new LarkExchange();
    c.sentence(33, "One for SACK (weight NONE: none is then): how many; NONE if one can't be, or there are eight.");
    int[] wrongWeight = {0, 31, -2, FAR_DOWN, FAR_UP};
    for (int v : wrongWeight) c.due("weight " + v, x.sack(v, 5), -1);
    int[] wrongWorth = {0, 100, -1, FAR_DOWN, FAR_UP};
    for (int v : wrongWorth) c.due("worth " + v, x.sack(5, v), -1);
    c.due("none was told", x.packed(99, 2), 0);
    c.due("none of none", x.sack(-1, 5), 0);
    c.due("the least", x.sack(1, 1), 1);
    c.due("the greatest", x.sack(30, 99), 2);
    for (int i = 3; i <= 8; i++) c.due("how many", x.sack(1, 1), i);
    c.due("a ninth", x.sack(1, 99), -1);
    c.due("which does not count", x.packed(99, 0), 106);
    int[] anything = {-1, 0, 100, FAR_DOWN, FAR_UP};
    for (int worth : anything) {
      c.due("none is then, whatever the worth", x.sack(-1, worth), 0);
      c.due("none", x.packed(99, 2), 0);
      c.due("the first again", x.sack(2, 2), 1);
    }
  }

  private static void p34() {
    c.sentence(34, "SACK: up to 8 told (weight 1 .. 30, worth 1 .. 99), taken into a sack for w (0 .. 99) by what their worth by weight is, the greatest first (as told, if alike), the first that does not go in whole in part, and none behind it: the worth as a fraction in lowest terms; how many go in whole.");
    LarkExchange x = new LarkExchange();
    x.sack(10, 10);
    x.sack(2, 2);
    x.sack(3, 9);
    x.sack(6, 4);
    int[][] known = {{0, 0, 1, 0}, {1, 3, 1, 0}, {2, 6, 1, 0}, {3, 9, 1, 1}, {4, 10, 1, 1}, {5, 11, 1, 1}, {12, 18, 1, 1}, {13, 19, 1, 2},
        {14, 20, 1, 2}, {15, 21, 1, 3}, {16, 65, 3, 3}, {17, 67, 3, 3}, {18, 23, 1, 3}, {20, 73, 3, 3}, {21, 25, 1, 4}, {22, 25, 1, 4}, {99, 25, 1, 4}};
    for (int[] one : known) for (int w = 0; w <= 2; w++) c.due("a sack for " + one[0] + " what " + w, x.packed(one[0], w), one[1 + w]);
    LarkExchange y = new LarkExchange();
    y.sack(2, 2);
    y.sack(10, 10);
    c.due("alike: as told", y.packed(5, 2), 1);
    LarkExchange up = new LarkExchange();
    for (int i = 1; i <= 8; i++) up.sack(10, i * i);
    int[] goesUp = {64, 113, 149, 174, 190, 199, 203, 204};
    for (int i = 1; i <= 8; i++) c.due("told the least first, " + i, up.packed(10 * i, 0), goesUp[i - 1]);
    LarkExchange mixed = new LarkExchange();
    int[] worths = {30, 10, 50, 20, 80, 40, 70, 60};
    for (int v : worths) mixed.sack(10, v);
    int[] goesMixed = {80, 150, 210, 260, 300, 330, 350, 360};
    for (int i = 1; i <= 8; i++) c.due("told in no order, " + i, mixed.packed(10 * i, 0), goesMixed[i - 1]);
    LarkExchange empty = new LarkExchange();
    int[] nothing = {0, 1, 0};
    for (int w = 0; w <= 2; w++) c.due("of nothing " + w, empty.packed(99, w), nothing[w]);
    LarkExchange full = new LarkExchange();
    for (int i = 0; i < 8; i++) full.sack(30, 99);
    c.due("three whole", full.packed(99, 2), 3);
    c.due("and a part", full.packed(99, 0), 3267);
    c.due("below", full.packed(99, 1), 10);
    c.sentence(34, "NONE if w can't be, or another what.");
    int[] wrong = {-1, 100, FAR_DOWN, FAR_UP};
    for (int v : wrong) for (int w = 0; w <= 2; w++) c.due("w " + v, x.packed(v, w), -1);
    int[] others = {-1, 3, FAR_DOWN, FAR_UP};
    for (int w : others) c.due("what " + w, x.packed(5, w), -1);
  }

  private static void p35() {
    LarkExchange x = new LarkExchange();
    c.sentence(35, "SHARES of n (1 .. 60) coins, the order not asked: in how many ways into unlike parts (n alone, too); into odd parts; into parts of k (1 .. 60) at most each.");
    int[] unlike = {1, 1, 2, 2, 3, 4, 5, 6, 8, 10};
    for (int n = 1; n <= 10; n++) {
      c.due("unlike of " + n, x.shares(n, 0), unlike[n - 1]);
      c.due("odd of " + n, x.shares(n, 1), unlike[n - 1]);
    }
    c.due("unlike of 60", x.shares(60, 0), 10880);
    c.due("odd of 60", x.shares(60, 1), 10880);
    int[] atMost = {1, 4, 7, 9, 10, 11, 11};
    for (int k = 1; k <= 7; k++) c.due("of 6 at most " + k, x.shares(6, 100 + k), atMost[k - 1]);
    c.due("of 60 at most 60", x.shares(60, 160), 966467);
    c.due("of 60 at most 59", x.shares(60, 159), 966466);
    c.due("of 60 at most 1", x.shares(60, 101), 1);
    c.due("of 60 at most 2", x.shares(60, 102), 31);
    c.due("of 1 at most 60", x.shares(1, 160), 1);
    c.sentence(35, "NONE if one can't be, or another what.");
    int[] wrong = {0, -1, 61, FAR_DOWN, FAR_UP};
    for (int n : wrong) {
      c.due("n " + n, x.shares(n, 0), -1);
      c.due("odd n " + n, x.shares(n, 1), -1);
      c.due("at most n " + n, x.shares(n, 105), -1);
    }
    int[] others = {-1, 2, 99, 100, 161, FAR_DOWN, FAR_UP};
    for (int w : others) c.due("what " + w, x.shares(5, w), -1);
  }

  private static void p36() {
    LarkExchange x = new LarkExchange();
    c.sentence(36, "two by turns send it up by 1 .. k (2 .. 9), not by as much as the other one just did; who sends it to s or beyond loses (at first any way can be taken): how far who begins goes (the least that wins; NONE: he loses).");
    c.due("one step below the sky", x.game(0, 1, 2), -1);
    c.due("so it is at the top", x.game(99, 100, 9), -1);
    c.due("two steps", x.game(0, 2, 2), 1);
    c.due("two steps at the top", x.game(98, 100, 9), 1);
    // by 1 the other one may not take 1, and 2 goes to the sky
    c.due("three by two", x.game(0, 3, 2), 1);
    // by 1: the other goes by 2 to 3; by 2: the other goes by 1 to 3, and the next loses either way
    c.due("four by two", x.game(0, 4, 2), -1);
    // by 3 to one below the sky
    c.due("four by three", x.game(0, 4, 3), 3);
    c.due("the same higher up", x.game(50, 54, 3), 3);
    c.sentence(36, "a lark is at h (0 .. 99), the sky at s (1 .. 100, above h)");
    int[] wrongH = {-1, 100, FAR_DOWN, FAR_UP};
    for (int h : wrongH) c.due("h " + h, x.game(h, 100, 3), -1);
    int[] wrongS = {0, -1, 101, FAR_DOWN, FAR_UP};
    for (int s : wrongS) c.due("s " + s, x.game(0, s, 3), -1);
    c.due("two below a sky at 101", x.game(99, 101, 3), -1);
    c.due("two below a sky at 1", x.game(-1, 1, 3), -1);
    c.due("two below a sky at 102", x.game(100, 102, 3), -1);
    c.due("h at s", x.game(5, 5, 3), -1);
    c.due("h above s", x.game(6, 5, 3), -1);
    c.sentence(36, "GAME. NONE, too, if one can't be.");
    int[] wrongK = {1, 0, -1, 10, FAR_DOWN, FAR_UP};
    for (int k : wrongK) c.due("k " + k, x.game(0, 3, k), -1);
    for (int k = 2; k <= 9; k++)
      for (int s = 1; s <= 100; s++) {
        LarkExchange other = new LarkExchange();
        if (s % 10 == k) x = new LarkExchange();
        c.due("behind other games, the sky at " + s + ", by " + k, x.game(0, s, k), other.game(0, s, k));
      }
    c.due("k 9 can be", x.game(0, 3, 9), 1);
    c.due("k 2 can be", x.game(97, 99, 2), 1);
  }

  public static void main(String[] args) {
    p19(); p20(); p21(); p22(); p23(); p24(); p25(); p26(); p27(); p28(); p29(); p30(); p31(); p32(); p33(); p34(); p35(); p36();
    c.namesAll(19, 36);
    c.ends();
  }
}
