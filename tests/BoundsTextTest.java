/** The boundary cases of promises 9 to 12, sentence by sentence: the TAPE, its tokens, the texts and their FAULTS. */
public final class BoundsTextTest {
  private static final Check c = new Check();
  private static final int BLANKS = 0x20202020;

  private static int blanks(LarkExchange x) { return x.feed(BLANKS, BLANKS, BLANKS, BLANKS, BLANKS); }

  private static void p9() {
    c.sentence(9, "Twenty bytes come behind the TAPE, of each number the highest first: how many it has.");
    LarkExchange x = Check.town(1, 1, 1);
    c.due("twenty", x.feed(0x72697365, 0x73203132, 0x3b66616c, 0x6c732037, 0x3b61736b), 20);
    c.due("forty", x.feed(0x73203430, 0x3b202020, 0x20202020, 0x20202020, 0x20202061), 40);
    c.due("all of them are read", x.text(0), -1);
    c.due("the last byte, too", x.fault(1), 39);
    x.feed(0x72697365, 0x73203132, 0x3b66616c, 0x6c732037, 0x3b61736b);
    x.feed(0x73203430, 0x3b202020, 0x20202020, 0x20202020, 0x2020200a);
    c.due("three lines", x.text(0), 3);
    c.due("rises", x.of(0, 5), 12);
    c.due("falls", x.of(0, 6), 7);
    c.due("asks", x.goodOf(0, 3), 40);
    x.feed(0x61736b73, 0x2035ff3b, BLANKS, BLANKS, BLANKS);
    x.text(0);
    c.due("a byte above 127", x.fault(1), 6);
    x.feed(0x61736b73, 0x2035003b, BLANKS, BLANKS, BLANKS);
    x.text(0);
    c.due("a byte of 0", x.fault(1), 6);
    x.feed(0xe1736b73, 0x20353b20, BLANKS, BLANKS, BLANKS);
    x.text(0);
    c.due("a letter and 128", x.fault(1), 0);
    c.due("its fault", x.fault(0), 1);
    c.sentence(9, "NONE, and nothing comes, if there would be more than 400.");
    for (int n = 20; n <= 400; n += 20) c.due("up to " + n, blanks(x), n);
    c.due("beyond 400", blanks(x), -1);
    c.due("beyond it again", x.feed(1, 2, 3, 4, 5), -1);
    c.due("400 still", x.end(400), true);
    c.due("not more", x.end(401), false);
    x.end(381);
    c.due("to 401", x.feed(1, 2, 3, 4, 5), -1);
    c.due("381 still", x.end(382), false);
    x.end(380);
    c.due("to 400", blanks(x), 400);
    c.due("nothing but blanks came", x.text(0), 0);
    c.due("empty then", blanks(x), 20);
  }

  private static void p10() {
    c.sentence(10, "The TAPE has its first n bytes alone: true");
    LarkExchange x = Check.town(1, 1, 1);
    c.due("none of none", x.end(0), true);
    Check.feed(x, "asks 12;asks 34;x");
    c.due("as many as it has", x.end(17), true);
    c.due("one fewer", x.end(16), true);
    c.due("what is cut is gone", x.end(17), false);
    c.due("the first of them", x.end(8), true);
    c.due("one line", x.text(0), 1);
    c.due("which", x.goodOf(0, 3), 12);
    Check.feed(x, "asks 5;");
    x.end(4);
    x.feed(0x20363b20, BLANKS, BLANKS, BLANKS, BLANKS);
    c.due("more comes behind what is left", x.text(0), 1);
    c.due("asks 6", x.goodOf(0, 3), 6);
    Check.feed(x, "asks 5;");
    c.due("all cut", x.end(0), true);
    c.due("empty", x.end(1), false);
    c.due("an empty text", x.text(0), 0);
    c.sentence(10, "false, changing nothing, if it has not so many, or n is below 0.");
    c.due("one of none", x.end(1), false);
    c.due("-1 of none", x.end(-1), false);
    Check.feed(x, "asks 7;");
    int[] wrong = {8, -1, 400, Integer.MIN_VALUE, Integer.MAX_VALUE};
    for (int n : wrong) c.due("end " + n, x.end(n), false);
    c.due("nothing changed", x.text(0), 1);
    c.due("asks 7", x.goodOf(0, 3), 7);
  }

  private static void p11Tape() {
    LarkExchange x = Check.town(1, 1, 1);
    c.sentence(11, "The TAPE, empty then (whatever k, with a FAULT too), is TEXT k: how many lines.");
    String[] texts = {"rises 1;", "on 1 wind 1;", "on 1 trader 0 buy 1 of 0;", "good 0 by 0;"};
    for (int k = 0; k < 4; k++) {
      c.due("no lines at first", x.look(9 + k), 0);
      c.due("a line of " + k, Check.text(x, k, texts[k]), 1);
      c.due("empty then", x.end(1), false);
      c.due("it has one line", x.look(9 + k), 1);
      c.due("two lines of " + k, Check.text(x, k, texts[k] + "\n" + texts[k]), 2);
      c.due("with a fault", Check.text(x, k, texts[k] + texts[k] + texts[k] + "!"), -1);
      c.due("empty then, too", x.end(1), false);
      c.due("it stays as it was", x.look(9 + k), 2);
      c.due("none", x.text(k), 0);
      c.due("empty", x.look(9 + k), 0);
      c.due("blanks alone", Check.text(x, k, " \n  \n"), 0);
    }
    c.sentence(11, "NONE: no such one (fault() tells 0), or a FAULT (it stays as it was).");
    int[] none = {-1, 4, Integer.MIN_VALUE, Integer.MAX_VALUE};
    for (int k : none) {
      c.faulty(x, 0, "rises", 1, 5);
      Check.feed(x, "rises 9;");
      c.due("text " + k, x.text(k), -1);
      c.due("no fault", x.fault(0), 0);
      c.due("no place", x.fault(1), -1);
      c.due("empty, whatever k", x.end(1), false);
    }
    Check.text(x, 0, "rises 5; asks 50;");
    c.faulty(x, 0, "rises 6; asks 60; falls", 1, 23);
    c.due("the law stays", x.of(0, 5), 5);
    c.due("all of it", x.goodOf(0, 3), 50);
    Check.text(x, 3, "good 0 by 0;");
    c.faulty(x, 3, "good 0 by 0; good 0 by 1;", 2, 23);
    c.due("bound stays", x.goodOf(0, 1), 0);
    Check.text(x, 1, "on 0 wind 4;");
    c.faulty(x, 1, "on 0 wind 5; on 0 wind 10;", 2, 23);
    Check.text(x, 2, "on 0 trader 0 buy 3 of 0;");
    c.faulty(x, 2, "on 0 trader 0 buy 9 of 0; on 0 trader 1", 2, 38);
    x.days(1);
    c.due("dawns stay", x.look(3), 4);
    c.due("trades stay", x.who(0, 10), 2);
  }

  private static void p11Bound() {
    c.sentence(11, "(of several for one the last; others by none.)");
    LarkExchange x = Check.town(3, 4, 0);
    c.fine(x, 3, "good 1 by 2; good 3 by 0; good 1 by 1; good 1 by 0;", 4);
    int[] by = {-1, 0, -1, 0};
    for (int g = 0; g < 4; g++) c.due("good " + g, x.goodOf(g, 1), by[g]);
    c.fine(x, 3, "good 0 by 2;", 1);
    int[] then = {2, -1, -1, -1};
    for (int g = 0; g < 4; g++) c.due("then good " + g, x.goodOf(g, 1), then[g]);
    c.fine(x, 3, "", 0);
    c.due("by none", x.goodOf(0, 1), -1);
  }

  /** Each on a town of its own, since an object is used for 512 calls at most. */
  private static void bad(int k, String s, int fault, int place) { c.faulty(Check.town(2, 2, 2), k, s, fault, place); }
  private static LarkExchange fine(int k, String s, int lines) {
    LarkExchange x = Check.town(2, 2, 2);
    c.fine(x, k, s, lines);
    return x;
  }

  private static void p11Words() {
    c.sentence(11, "letters (a .. z, A .. Z) as many as stand together are KEYWORDS (those told here for that text) or none");
    String[] never = {"Rises", "RISES", "rise", "risess", "aises", "riseA", "riseZ", "zrises", "risesa", "risesz", "risesA", "risesZ", "arises", "Arises", "Zrises", "r", "aaaaaa", "heights", "minutes", "scareddd", "risesfallsasks"};
    for (String word : never) bad(0, word + " 1;", 1, 0);
    char[] around = {'@', '[', '`', '{', (char) 193, (char) 225};
    for (char sign : around) {
      bad(0, "rises" + sign + "1;", 1, 5);
      bad(0, sign + "rises 1;", 1, 0);
    }
    String[] units = {"voice", "height", "top", "scared", "wind", "minute", "base", "lost", "day"};
    for (String unit : units) fine(0, "rises " + unit + ";", 1);
    String[] others = {"on", "boy", "calm", "seek", "trader", "buy", "sell", "of", "good", "by", "rises", "falls", "asks", "when", "or", "and", "not"};
    for (String other : others) bad(0, "rises " + other + ";", 1, 6);
    bad(1, "on 1 trader 0 buy 1 of 0;", 1, 5);
    bad(2, "on 1 wind 1;", 1, 5);
    bad(3, "on 1 wind 1;", 1, 0);
    bad(0, "good 0 by 0;", 1, 0);
    bad(1, "good 0 by 0;", 1, 0);
    bad(2, "good 0 by 0;", 1, 0);
    bad(3, "rises 1;", 1, 0);
    c.sentence(11, "digits as many as stand together NUMBERS of 1 to 4 digits or none");
    String[] numbers = {"0", "00", "0000", "9", "99", "999", "9999"};
    int[] values = {1, 1, 1, 9, 99, 999, 999};
    for (int i = 0; i < numbers.length; i++) c.due("held " + numbers[i], fine(0, "asks " + numbers[i] + ";", 1).goodOf(0, 3), values[i]);
    String[] long5 = {"00000", "00001", "12345", "99999", "123456", "4294967297", "12345678901234567890"};
    for (String number : long5) bad(0, "asks " + number + ";", 1, 5);
    char[] beside = {'/', ':'};
    bad(0, "asks 1" + beside[1] + ";", 1, 6);
    bad(0, "asks " + beside[0] + "1;", 1, 5);
    fine(0, "asks 1 /2;", 1);
    bad(0, "asks 1 2;", 1, 7);
    bad(1, "on 00000 wind 1;", 1, 3);
    fine(1, "on 0000 wind 0001;", 1);
    c.sentence(11, "; + - * / ( ) < = > . Blanks (32, 10) between.");
    fine(0, "asks 1+2-3*4/5 when (1<2) and 3=3 and 5>4;", 1);
    fine(0, "\n asks\n1\n+ 2 - 3\n* 4 / 5 when ( 1\n< 2 ) and\n3 = 3 ; \n", 1);
    fine(0, "asks1when2<3and4<5;falls9;", 2);
    int[] noBlanks = {0, 1, 8, 9, 11, 12, 13, 31, 33, 127, 128, 160, 255};
    for (int blank : noBlanks) bad(0, "asks 1" + (char) blank + ";", 1, 6);
    String[] noSigns = {".", ",", ":", "!", "#", "%", "&", "'", "\"", "?", "_", "^", "|", "~", "\\"};
    for (String sign : noSigns) bad(0, "asks 1 " + sign + " 2;", 1, 7);
    bad(0, "asks 12 34;", 1, 8);
    bad(0, "as ks 1;", 1, 0);
    bad(0, "asks 1 when 1 <= 2;", 1, 15);
  }

  private static void p11CantStand() {
    c.sentence(11, "1 what can't stand there (the end: the text's length).");
    String law = "rises 1 + 2 when not ( 1 < 2 ) and 3 = 3 or 4 > 4 ;";
    cutAtEachWord(0, law);
    cutAtEachWord(1, "on 1 boy 0 1 ;");
    cutAtEachWord(1, "on 1 calm 1 ;");
    cutAtEachWord(1, "on 1 wind 0 ;");
    cutAtEachWord(1, "on 1 seek 0 ;");
    cutAtEachWord(2, "on 1 trader 1 buy 99 of 1 ;");
    cutAtEachWord(2, "on 1 trader 1 sell 1 of 0 ;");
    cutAtEachWord(3, "good 1 by 1 ;");
    bad(0, "rises 1    ", 1, 11);
    bad(0, "rises 1\n\n", 1, 9);
    bad(0, "rises 1" + "+1".repeat(196) + " ", 1, 400);
    c.due("a full tape", fine(0, "asks 1" + "+1".repeat(196) + " ;", 1).goodOf(0, 3), 197);
    LarkExchange twice = new LarkExchange();
    twice.good(1);
    for (int i = 0; i < 3; i++) c.fine(twice, 0, "asks 1" + "+1".repeat(196) + ";", 1);
    c.due("a full tape three times", twice.goodOf(0, 3), 197);
    bad(0, ";".repeat(400), 1, 0);
    bad(0, "asks 1;" + ";".repeat(393), 1, 7);
    bad(0, ";", 1, 0);
    bad(0, "rises 1;;", 1, 8);
    bad(1, ";", 1, 0);
    bad(0, "rises - 1;", 1, 6);
    bad(0, "rises (1);", 1, 6);
    bad(0, "rises 1 + ;", 1, 10);
    bad(0, "rises 1 * * 2;", 1, 10);
    bad(0, "rises 1 / day;", 1, 10);
    bad(0, "rises 1 / (2);", 1, 10);
    bad(0, "rises 1 < 2;", 1, 8);
    bad(0, "rises 1 when 1 < 2 when 1 < 2;", 1, 19);
    bad(0, "rises 1 when 1 < 2 < 3;", 1, 19);
    bad(0, "rises 1 when (1 < 2) < 3;", 1, 21);
    bad(0, "rises 1 when (1) < 3;", 1, 15);
    bad(0, "rises 1 when 1 = (2);", 1, 17);
    bad(0, "rises 1 when 1;", 1, 14);
    bad(0, "rises 1 when ();", 1, 14);
    bad(0, "rises 1 when 1=1);", 1, 16);
    bad(0, "rises 1 when (1=1;", 1, 17);
    bad(0, "rises 1 when (1=1));", 1, 18);
    bad(0, "rises 1 when not;", 1, 16);
    bad(0, "rises 1 when 1=1 not 1=1;", 1, 17);
    bad(0, "rises 1 when 1=1 and or 1=1;", 1, 21);
    bad(0, "rises 1 falls 2;", 1, 8);
    bad(1, "on 1 calm 0 1;", 1, 12);
    bad(1, "on 1 wind 0 1;", 1, 12);
    bad(1, "on 1 boy 0 1 1;", 1, 13);
    bad(1, "on 1 seek 0 seek 1;", 1, 12);
    bad(1, "on day wind 1;", 1, 3);
    bad(1, "on 1 boy 0;", 1, 10);
    bad(2, "on 1 trader 1 buy 1;", 1, 19);
    bad(2, "on 1 trader 1 buy 1 of good 0;", 1, 23);
    bad(2, "on 1 trader 1 buy 1 by 0;", 1, 20);
    bad(2, "on 1 trader 1 boy 1 of 0;", 1, 14);
    bad(3, "good 1 of 1;", 1, 7);
    bad(3, "good 1 by lark 1;", 1, 10);
    bad(3, "by 1 good 1;", 1, 0);
  }
  /** Of a text whose tokens have a blank between: cut ahead of each token the end can't stand there. */
  private static void cutAtEachWord(int k, String whole) {
    fine(k, whole, 1);
    for (int i = 1; i < whole.length(); i++)
      if (whole.charAt(i - 1) == ' ') {
        bad(k, whole.substring(0, i), 1, i);
        bad(k, whole.substring(0, i) + "! ;", 1, i);
      }
  }

  private static final String[] TOKENS = ("rises falls asks when or and not voice height top scared wind minute base lost day on boy calm seek"
      + " trader buy sell of good by ; + - * / ( ) < = > 1").split(" ");
  private static final String UNITS = " voice height top scared wind minute base lost day 1 ";
  /** Behind that beginning just these tokens can stand; each other one is FAULT 1 at its place. */
  private static void only(int k, String beginning, String allowed) {
    for (String token : TOKENS) {
      LarkExchange x = Check.town(2, 2, 2);
      Check.text(x, k, beginning + token);
      boolean stands = (" " + allowed + " ").contains(" " + token + " ");
      c.due("'" + beginning + token + "' " + (stands ? "can" : "can't") + " stand", x.fault(1) != beginning.length(), stands);
      if (!stands) c.due("its fault", x.fault(0), 1);
    }
  }
  private static void p11Only() {
    c.sentence(11, "0 THE LAW = {(rises | falls | asks) E [when B] ;}.");
    only(0, "", "rises falls asks");
    only(0, "rises 1; ", "rises falls asks");
    only(0, "falls ", UNITS);
    only(0, "rises 2 ", "+ - * / when ;");
    only(0, "asks day ", "+ - * / when ;");
    only(0, "rises 2 when ", UNITS + "not (");
    only(0, "rises 2 when 2<3 ", "+ - * / and or ;");
    only(0, "rises 2 + ", UNITS);
    only(0, "rises 2 - ", UNITS);
    only(0, "rises 2 * ", UNITS);
    only(0, "rises 2 / ", "1");
    only(0, "rises 2 / 2 ", "+ - * / when ;");
    only(0, "rises 2 when 2 ", "+ - * / < = >");
    only(0, "rises 2 when 2 < ", UNITS);
    only(0, "rises 2 when 2 = ", UNITS);
    only(0, "rises 2 when 2 > ", UNITS);
    only(0, "rises 2 when not ", UNITS + "not (");
    only(0, "rises 2 when ( ", UNITS + "not (");
    only(0, "rises 2 when (2<3 ", "+ - * / and or )");
    only(0, "rises 2 when (2<3) ", "and or ;");
    only(0, "rises 2 when ((2<3) ", "and or )");
    only(0, "rises 2 when 2<3 and ", UNITS + "not (");
    only(0, "rises 2 when 2<3 or ", UNITS + "not (");
    c.sentence(11, "1 DAWNS = {on DAY (boy LARK N | calm LARK | wind N | seek LARK) ;}");
    only(1, "", "on");
    only(1, "on 1 wind 1; ", "on");
    only(1, "on ", "1");
    only(1, "on 1 ", "boy calm wind seek");
    only(1, "on 1 boy ", "1");
    only(1, "on 1 calm ", "1");
    only(1, "on 1 wind ", "1");
    only(1, "on 1 seek ", "1");
    only(1, "on 1 boy 1 ", "1");
    only(1, "on 1 boy 1 1 ", ";");
    only(1, "on 1 calm 1 ", ";");
    only(1, "on 1 wind 1 ", ";");
    only(1, "on 1 seek 1 ", ";");
    c.sentence(11, "2 TRADES = {on DAY trader TRADER (buy | sell) N of GOOD ;} (N 1 .. 99.)");
    only(2, "", "on");
    only(2, "on ", "1");
    only(2, "on 1 ", "trader");
    only(2, "on 1 trader ", "1");
    only(2, "on 1 trader 1 ", "buy sell");
    only(2, "on 1 trader 1 buy ", "1");
    only(2, "on 1 trader 1 sell ", "1");
    only(2, "on 1 trader 1 sell 1 ", "of");
    only(2, "on 1 trader 1 sell 1 of ", "1");
    only(2, "on 1 trader 1 sell 1 of 1 ", ";");
    only(2, "on 1 trader 1 sell 1 of 1;", "on");
    c.sentence(11, "3 BOUND = {good GOOD by LARK ;}");
    only(3, "", "good");
    only(3, "good ", "1");
    only(3, "good 1 ", "by");
    only(3, "good 1 by ", "1");
    only(3, "good 1 by 1 ", ";");
    only(3, "good 1 by 1; ", "good");
  }

  private static void p11Numbers() {
    c.sentence(11, "2 (at the NUMBER) a part by 0; one beyond its bounds; a LARK, a GOOD, a TRADER that there is not.");
    bad(0, "asks 1 / 0;", 2, 9);
    bad(0, "asks 1 / 0000;", 2, 9);
    bad(0, "asks 1 when 1 = 8 / 4 / 0;", 2, 24);
    fine(0, "asks 1 / 1; asks 0 / 9999; asks 0 * 0;", 3);
    bad(1, "on 1000 wind 1;", 2, 3);
    bad(1, "on 9999 wind 1;", 2, 3);
    fine(1, "on 0 wind 0; on 999 wind 9;", 2);
    bad(1, "on 1 wind 10;", 2, 10);
    bad(1, "on 1 boy 0 0;", 2, 11);
    bad(1, "on 1 boy 0 10;", 2, 11);
    fine(1, "on 1 boy 0 1; on 1 boy 1 9;", 2);
    String[] deeds = {"boy", "calm", "seek"};
    for (String deed : deeds) bad(1, "on 1 " + deed + " 2", 2, 6 + deed.length());
    fine(1, "on 1 calm 1; on 1 seek 1;", 2);
    bad(2, "on 1000 trader 0 buy 1 of 0;", 2, 3);
    bad(2, "on 1 trader 2 buy 1 of 0;", 2, 12);
    bad(2, "on 1 trader 1 buy 0 of 0;", 2, 18);
    bad(2, "on 1 trader 1 buy 100 of 0;", 2, 18);
    bad(2, "on 1 trader 1 sell 0 of 0;", 2, 19);
    bad(2, "on 1 trader 1 sell 100 of 0;", 2, 19);
    bad(2, "on 1 trader 1 sell 99 of 2;", 2, 25);
    fine(2, "on 0 trader 0 buy 1 of 0; on 999 trader 1 sell 99 of 1;", 2);
    bad(3, "good 2 by 0;", 2, 5);
    bad(3, "good 0 by 2;", 2, 10);
    fine(3, "good 1 by 1;", 1);
    LarkExchange none = new LarkExchange();
    c.faulty(none, 1, "on 1 calm 0;", 2, 10);
    c.faulty(none, 2, "on 1 trader 0", 2, 12);
    c.faulty(none, 3, "good 0", 2, 5);
    none.good(1);
    c.faulty(none, 3, "good 0 by 0;", 2, 10);
    c.fine(none, 1, "on 1 wind 1;", 1);
    LarkExchange full = new LarkExchange();
    for (int i = 0; i < 10; i++) { full.lark(1); full.good(1); full.trader(1); }
    c.fine(full, 3, "good 7 by 5;", 1);
    c.faulty(full, 3, "good 8 by 5;", 2, 5);
    c.faulty(full, 3, "good 7 by 6;", 2, 10);
    c.fine(full, 2, "on 1 trader 9 buy 1 of 7;", 1);
    c.faulty(full, 2, "on 1 trader 10 buy 1 of 7;", 2, 12);
  }

  private static void p11TooMuch() {
    c.sentence(11, "3 (at its KEYWORD) the 17th line of a text");
    String[] lines = {"asks 1;", "on 1 wind 1;", "on 1trader 0buy 1of 0;", "good 1 by 1;"};
    for (int k = 0; k < 4; k++) {
      LarkExchange x = fine(k, lines[k].repeat(16), 16);
      c.due("lines told", x.look(9 + k), 16);
      int size = 16 * lines[k].length();
      c.faulty(x, k, lines[k].repeat(17), 3, size);
      bad(k, lines[k].repeat(16) + "\n " + lines[k].substring(0, lines[k].indexOf(' ')), 3, size + 2);
      bad(k, lines[k].repeat(16) + " x", 1, size + 1);
      c.due("stays", x.look(9 + k), 16);
    }
    bad(0, "asks 1;rises 1;falls 1;".repeat(5) + "asks 1;rises 1;", 3, 122);
    c.sentence(11, "(at it) the 9th ( or not that is open.");
    fine(0, "rises 1 when ((((((((1=1))))))));", 1);
    bad(0, "rises 1 when (((((((((1=1)))))))));", 3, 21);
    fine(0, "rises 1 when not not not not not not not not 1=1;", 1);
    bad(0, "rises 1 when not not not not not not not not not 1=1;", 3, 45);
    fine(0, "rises 1 when (not(not(not(not 1=1))));", 1);
    bad(0, "rises 1 when (not(not(not(not not 1=1))));", 3, 30);
    bad(0, "rises 1 when (not(not(not(not (1=1)))));", 3, 30);
    bad(0, "rises 1 when not not not not not not not not (1=1);", 3, 45);
    bad(0, "rises 1 when ((((((((not", 3, 21);
    fine(0, "rises 1 when ((((((((1=1)))))))) and ((((((((1=1))))))));", 1);
    fine(0, "rises 1 when not not not not not not not not 1=1 or not not not not not not not not 1=1;", 1);
    fine(0, "rises 1 when (((((((not 1=1 and not 1=1 or not 1=1)))))));", 1);
    fine(0, "rises 1 when " + "(1=1)and".repeat(20) + " 1=1;", 1);
    fine(0, "rises 1 when ((((((((1=1)))))))); rises 1 when ((((((((1=1))))))));", 2);
    bad(0, "rises 1 when ((((((((1=1))))))) and ((((((((", 3, 43);
    bad(0, "rises 1 when 1 = (((((((((", 1, 17);
  }

  private static void p11First() {
    c.sentence(11, "FAULTS, the first by its place, at one place the least");
    bad(0, "rises 1/0 when (((((((((1=1", 2, 8);
    bad(0, "rises x / 0;", 1, 6);
    bad(0, "rises 1 when (((((((((1/0=1;", 3, 21);
    bad(0, "rises 1 when ((((((((1/0=1;", 2, 23);
    bad(1, "on 1000 sing 10;", 2, 3);
    bad(1, "on 1 sing 10;", 1, 5);
    bad(1, "on 1 boy 2 10;", 2, 9);
    bad(2, "on 1 trader 2 buy 0 of 2;", 2, 12);
    bad(2, "on 1 trader 1 buy 0 of 2;", 2, 18);
    bad(3, "good 2 by 2 !", 2, 5);
    bad(3, "good 1 by 2 !", 2, 10);
    bad(3, "good 1 by 1 !", 1, 12);
    bad(3, "good 1 by 1;".repeat(16) + "by", 1, 192);
    bad(3, "good 1 by 1;".repeat(16) + "good 9", 3, 192);
    bad(3, "good 1 by 1;".repeat(15) + "good 9 by 1; good 1 by 1;", 2, 185);
  }

  private static void p12() {
    c.sentence(12, "Of the latest text() what 0 the FAULT (0 without one), 1 its place (NONE). NONE for another what.");
    LarkExchange x = Check.town(1, 1, 0);
    c.due("none yet", x.fault(0), 0);
    c.due("nowhere yet", x.fault(1), -1);
    c.faulty(x, 0, "asks 1/0;", 2, 7);
    int[] others = {-1, 2, Integer.MIN_VALUE, Integer.MAX_VALUE};
    for (int w : others) c.due("what " + w, x.fault(w), -1);
    c.due("asked again", x.fault(0), 2);
    x.feed(1, 2, 3, 4, 5);
    x.end(0);
    x.days(1);
    x.undo();
    x.image(true);
    x.image(false);
    c.due("of the latest text still", x.fault(1), 7);
    c.faulty(x, 0, "!", 1, 0);
    c.fine(x, 0, "asks 1;", 1);
    c.faulty(x, 3, "good 0 by 0;".repeat(17), 3, 192);
    x.text(7);
    c.due("no such text: 0", x.fault(0), 0);
    c.due("no such text: nowhere", x.fault(1), -1);
  }

  public static void main(String[] args) {
    p9(); p10();
    p11Tape(); p11Bound(); p11Words(); p11CantStand(); p11Only(); p11Numbers(); p11TooMuch(); p11First();
    p12();
    c.namesAll(9, 12);
    c.ends();
  }
}
