/** Each promise with ordinary inputs, the edges that the document names, and wrong inputs; the answers by hand. */
public final class PromisesTest {
  private static final Check c = new Check();
  private static final int FIRST_STATE = 1013904223;  // behind one DRAW from 0; it is 563 of 1000
  private static final int SECOND_STATE = 1196435762; // behind two; that is 577 of 1000

  private static void p1() {
    LarkExchange x = new LarkExchange();
    for (int i = 0; i <= 13; i++) c.due("1 look " + i, x.look(i), 0);
    c.due("1 fault", x.fault(0), 0);
    c.due("1 place", x.fault(1), -1);
    c.due("1 undo", x.undo(), false);
    c.due("1 image", x.image(false), false);
    c.due("1 row", x.row(0), -1);
    LarkExchange other = new LarkExchange();
    other.lark(1);
    c.due("1 apart", x.look(0), 0);
  }

  private static void p2() {
    LarkExchange x = Check.town(1, 0, 0);
    c.due("2 first", x.state(7), 0);
    c.due("2 then", x.state(-5), 7);
    c.due("2 is", x.look(8), -5);
    x.state(0);
    Check.text(x, 0, "falls 564;");
    c.due("2 draw below", x.days(1), 1);
    c.due("2 drawn", x.look(8), FIRST_STATE);
    x.state(0);
    Check.text(x, 0, "falls 563 when minute = 0; falls 0;");
    c.due("2 draw not below", x.days(1), 0);
    c.due("2 one draw", x.look(8), FIRST_STATE);
    x.state(0);
    Check.text(x, 0, "falls 563 when minute = 0; falls 578 when minute = 1; falls 0;");
    c.due("2 second draw", x.days(1), 1);
    c.due("2 two draws", x.look(8), SECOND_STATE);
    c.due("2 can be undone", x.look(13), 3 - 2);
    x.state(SECOND_STATE);
    c.due("2 forgets", x.look(13), 0);
  }

  private static void p3() {
    LarkExchange x = new LarkExchange();
    c.due("3 below", x.lark(-1), -1);
    c.due("3 above", x.lark(10), -1);
    for (int i = 0; i < 6; i++) c.due("3 number", x.lark(i == 0 ? 0 : 9), i);
    c.due("3 seventh", x.lark(1), -1);
    c.due("3 voice", x.of(0, 0), 0);
    c.due("3 voice 9", x.of(5, 0), 9);
    for (int w = 1; w <= 4; w++) c.due("3 at first", x.of(5, w), 0);
    c.due("3 look", x.look(0), 6);
    LarkExchange y = Check.town(1, 0, 0);
    y.days(1);
    y.lark(99);
    c.due("3 refused does not forget", y.look(13), 1);
    y.lark(9);
    c.due("3 forgets", y.look(13), 0);
  }

  private static void p4() {
    LarkExchange x = new LarkExchange();
    c.due("4 below", x.good(0), -1);
    c.due("4 above", x.good(100), -1);
    for (int i = 0; i < 8; i++) c.due("4 number", x.good(i == 0 ? 1 : 99), i);
    c.due("4 ninth", x.good(5), -1);
    c.due("4 base", x.goodOf(7, 0), 99);
    c.due("4 by", x.goodOf(7, 1), -1);
    c.due("4 price", x.goodOf(7, 2), 99);
    c.due("4 look", x.look(1), 8);
    LarkExchange y = Check.town(0, 1, 0);
    y.days(1);
    y.good(5);
    c.due("4 forgets", y.look(13), 0);
  }

  private static void p5() {
    LarkExchange x = new LarkExchange();
    c.due("5 below", x.trader(-1), -1);
    c.due("5 above", x.trader(10000), -1);
    for (int i = 0; i < 10; i++) c.due("5 number", x.trader(i == 0 ? 0 : 9999), i);
    c.due("5 eleventh", x.trader(5), -1);
    c.due("5 purse", x.who(9, 0), 9999);
    c.due("5 ruined", x.who(0, 1), 0);
    c.due("5 look", x.look(2), 10);
    LarkExchange y = Check.town(0, 1, 1);
    y.days(1);
    y.trader(5);
    c.due("5 forgets", y.look(13), 0);
  }

  private static void p6() {
    LarkExchange x = Check.town(2, 2, 2);
    int[] least = {0, 0, 0, 1, 1, 0, 0};
    int[] most = {9, 999, 9, 99, 999, 9999, 9};
    for (int w = 0; w <= 6; w++) {
      c.due("6 least " + w, x.set(w, 1, least[w]), true);
      c.due("6 below " + w, x.set(w, 1, least[w] - 1), false);
      c.due("6 most " + w, x.set(w, 1, most[w]), true);
      c.due("6 above " + w, x.set(w, 1, most[w] + 1), false);
      c.due("6 none such " + w, x.set(w, 2, least[w]), w == 6);
      c.due("6 who below " + w, x.set(w, -1, most[w]), w == 6);
    }
    c.due("6 another what", x.set(7, 0, 1), false);
    c.due("6 what below", x.set(-1, 0, 1), false);
    c.due("6 voice", x.of(1, 0), 9);
    c.due("6 height", x.of(1, 1), 999);
    c.due("6 top stays", x.of(1, 2), 0);
    c.due("6 scared", x.of(1, 4), 9);
    c.due("6 base", x.goodOf(1, 0), 99);
    c.due("6 price", x.goodOf(1, 2), 999);
    c.due("6 purse", x.who(1, 0), 9999);
    c.due("6 wind", x.look(3), 9);
    c.due("6 the other one", x.of(0, 0), 3);
    x.set(3, 0, 44);
    c.due("6 base alone", x.goodOf(0, 2), 10);
    x.days(1);
    x.set(7, 0, 0);
    c.due("6 refused does not forget", x.look(13), 1);
    x.set(6, 0, 0);
    c.due("6 forgets", x.look(13), 0);
  }

  private static void p7() {
    LarkExchange x = Check.town(2, 2, 2);
    c.due("7 buy", x.act(0, 1, 1), true);
    c.due("7 pays", x.who(1, 0), 90);
    c.due("7 has", x.who(1, 11), 1);
    c.due("7 sell none", x.act(1, 1, 0), false);
    c.due("7 sell", x.act(1, 1, 1), true);
    c.due("7 gets", x.who(1, 0), 100);
    c.due("7 book", x.look(7), 2);
    c.due("7 sold", x.book(1, 1), 3);
    c.due("7 no trader", x.act(0, 2, 0), false);
    c.due("7 no good", x.act(0, 0, 2), false);
    c.due("7 no good below", x.act(1, 0, -1), false);
    c.due("7 another what", x.act(4, 0, 0), false);
    c.due("7 what below", x.act(-1, 0, 0), false);
    x.set(5, 0, 9);
    c.due("7 can't pay", x.act(0, 0, 0), false);
    x.set(5, 0, 10);
    c.due("7 just pays", x.act(0, 0, 0), true);
    c.due("7 empty", x.who(0, 0), 0);
    x.set(5, 0, 9999);
    for (int i = 1; i < 99; i++) x.act(0, 0, 0);
    c.due("7 full", x.who(0, 10), 99);
    c.due("7 no room", x.act(0, 0, 0), false);
    x.set(2, 0, 8);
    c.due("7 scare", x.act(2, 0, 77), true);
    c.due("7 scared", x.of(0, 4), 9);
    c.due("7 scared enough", x.act(2, 0, 0), false);
    c.due("7 no lark", x.act(2, 2, 0), false);
    c.due("7 not lost", x.act(3, 0, 0), false);
    Check.text(x, 0, "rises 99; falls 0;");
    x.days(1);
    c.due("7 lost", x.of(0, 3), 1);
    c.due("7 scare a lost one", x.act(2, 0, 0), true);
    c.due("7 seek", x.act(3, 0, -9), true);
    c.due("7 found", x.of(0, 3), 0);
    c.due("7 height 0", x.of(0, 1), 0);
    c.due("7 top stays", x.of(0, 2), 999);
    c.due("7 seek again", x.act(3, 0, 0), false);
    LarkExchange y = Check.town(0, 1, 1);
    y.set(5, 0, 1);
    y.days(1);
    y.set(5, 0, 500);
    c.due("7 ruined", y.act(0, 0, 0), false);
    c.due("7 of ruin nothing else", y.who(0, 0), 500);
  }

  private static void p8Bounds() {
    LarkExchange x = Check.town(1, 0, 0);
    c.due("8 zero", x.days(0), -1);
    c.due("8 sixty-one", x.days(61), -1);
    c.due("8 below", x.days(Integer.MIN_VALUE), -1);
    Check.text(x, 0, "falls 1000;");
    c.due("8 sixty", x.days(60), 60);
    c.due("8 day", x.look(6), 60);
    for (int i = 0; i < 165; i++) x.days(60);
    c.due("8 far", x.look(6), 9960);
    c.due("8 too far", x.days(40), -1);
    c.due("8 nothing done", x.look(6), 9960);
    c.due("8 just", x.days(39), 39);
    c.due("8 the last", x.look(6), 9999);
    c.due("8 no more", x.days(1), -1);
    c.due("8 book is full", x.look(7), 150);
  }

  private static void p8Larks() {
    LarkExchange x = Check.town(2, 2, 0);
    Check.text(x, 3, "good 0 by 0;");
    Check.text(x, 0, "rises 16 when voice = 3 and minute < 29; rises 36; falls 0 when minute < 9; falls 0;");
    x.set(2, 0, 2);
    c.due("8 none fell", x.days(1), 0);
    c.due("8 height", x.of(0, 1), 29 * 16 + 36);
    c.due("8 lost at 500", x.of(0, 3), 1);
    c.due("8 scared one less", x.of(0, 4), 1);
    c.due("8 no draw", x.look(8), 0);
    c.due("8 price of a lost one", x.goodOf(0, 2), 10);
    c.due("8 book", x.look(7), 2);
    c.due("8 is lost", x.book(1, 1), 1);
    c.due("8 which", x.book(1, 2), 1);
    c.due("8 how high", x.book(1, 3), 500);
    x.days(1);
    c.due("8 a lost one does not sing", x.of(0, 4), 1);
    c.due("8 stays", x.of(0, 1), 500);
    Check.text(x, 0, "rises 16 when minute < 29; rises 35; falls 0; asks height when day = 3; asks 0;");
    Check.text(x, 1, "on 2 seek 0; on 2 wind 4; on 3 boy 0 9; on 3 boy 1 3; on 3 calm 1;");
    x.days(1);
    c.due("8 found", x.look(4), 2);
    c.due("8 not lost at 499", x.of(0, 1), 499);
    c.due("8 wind", x.look(3), 4);
    c.due("8 asks 1 at least", x.goodOf(0, 2), 1);
    x.days(1);
    c.due("8 boy", x.of(0, 4), 8);
    c.due("8 calm", x.of(1, 4), 0);
    c.due("8 asks by its lark", x.goodOf(0, 2), 499);
    c.due("8 asks by none", x.goodOf(1, 2), 1);
  }

  private static void p8Falls() {
    LarkExchange x = Check.town(1, 1, 0);
    Check.text(x, 3, "good 0 by 0;");
    Check.text(x, 0, "rises 99; falls 1000 when minute = 4 and height = 495 and top = 495; falls 0;");
    c.due("8 fell", x.days(1), 1);
    c.due("8 where", x.of(0, 1), 495);
    c.due("8 not lost", x.of(0, 3), 0);
    c.due("8 price", x.goodOf(0, 2), 10 + 49);
    c.due("8 book fell", x.book(0, 1), 0);
    Check.text(x, 0, "falls 1000;");
    x.days(1);
    c.due("8 usual rise", x.of(0, 1), 8);
    c.due("8 top", x.of(0, 2), 495);
    Check.text(x, 0, "rises 99; falls 1000 when height = 999 and minute = 12; falls 0;");
    c.due("8 held to 999", x.days(1), 1);
    c.due("8 then", x.of(0, 1), 999);
  }

  private static void p8Trades() {
    LarkExchange x = Check.town(0, 2, 3);
    x.set(5, 1, 9);
    Check.text(x, 0, "asks 7 when base = 10 and day > 1; asks 10;");
    Check.text(x, 2, "on 0 trader 0 buy 3 of 0; on 0 trader 0 sell 99 of 1; on 0 trader 1 buy 1 of 0; on 0 trader 0 buy 99 of 1;"
        + "on 1 trader 1 buy 1 of 0; on 2 trader 0 sell 2 of 0; on 2 trader 0 sell 9 of 0; on 2 trader 0 sell 9 of 0;");
    x.days(1);
    c.due("8 bought", x.who(0, 10), 3);
    c.due("8 as many as the purse pays", x.who(0, 11), 7);
    c.due("8 paid", x.who(0, 0), 0);
    c.due("8 with stock not ruined", x.who(0, 1), 0);
    c.due("8 ruined", x.look(5), 2);
    c.due("8 lines", x.look(7), 3);
    c.due("8 ruin in the book", x.book(2, 1), 4);
    c.due("8 ruined one's purse", x.book(2, 3), 9);
    x.set(5, 1, 999);
    x.days(1);
    c.due("8 the ruined does not trade", x.who(1, 10), 0);
    c.due("8 for good", x.who(1, 1), 1);
    x.days(1);
    c.due("8 sold by twos", x.who(0, 0), 21);
    c.due("8 no line of none", x.look(7), 5);
    c.due("8 sold one", x.book(4, 3), 1);
    LarkExchange y = Check.town(0, 1, 1);
    y.set(5, 0, 9999);
    y.set(3, 0, 1);
    Check.text(y, 2, "on 0 trader 0 buy 98 of 0; on 0 trader 0 buy 9 of 0;");
    y.days(1);
    c.due("8 room", y.who(0, 10), 99);
    c.due("8 one more", y.book(1, 3), 1);
    LarkExchange z = Check.town(0, 0, 1);
    z.set(5, 0, 0);
    z.days(1);
    c.due("8 no good, no ruin", z.who(0, 1), 0);
  }

  private static void p9to12() {
    LarkExchange x = Check.town(1, 1, 1);
    for (int i = 1; i <= 20; i++) c.due("9 feed", x.feed(0x20202020, 0x20202020, 0x20202020, 0x20202020, 0x20202020), 20 * i);
    c.due("9 too many", x.feed(1, 1, 1, 1, 1), -1);
    c.due("10 beyond", x.end(401), false);
    c.due("10 below", x.end(-1), false);
    c.due("10 end", x.end(381), true);
    c.due("9 would be more", x.feed(0, 0, 0, 0, 0), -1);
    c.due("10 not more than there is", x.end(382), false);
    c.due("10 same", x.end(381), true);
    c.due("11 blanks", x.text(0), 0);
    c.due("11 empty then", x.end(1), false);
    Check.feed(x, "asks 5;");
    c.due("11 no such one", x.text(4), -1);
    c.due("11 empty then, too", x.end(1), false);
    c.due("12 no fault", x.fault(0), 0);
    Check.feed(x, "asks 5;");
    c.due("11 below", x.text(-1), -1);
    c.faulty(x, 0, "asks 5", 1, 6);
    c.due("11 empty with a fault", x.end(1), false);
    c.due("12 another", x.fault(2), -1);
    c.due("12 below", x.fault(-1), -1);
    c.due("11 law", Check.text(x, 0, "asks\n5 ; rises 1;"), 2);
    c.due("12 none then", x.fault(0), 0);
    c.due("12 no place", x.fault(1), -1);
    c.faulty(x, 0, "asks 6; rises", 1, 13);
    c.due("11 stays as it was", x.goodOf(0, 3), 5);
    c.due("11 lines stay", x.look(9), 2);
    x.days(1);
    Check.text(x, 0, "asks 7;");
    c.due("11 the law forgets nothing", x.look(13), 1);
    c.faulty(x, 1, "on", 1, 2);
    c.due("11 a fault forgets nothing", x.look(13), 1);
    for (int k = 1; k <= 3; k++) {
      x.days(1);
      c.due("11 text " + k, Check.text(x, k, ""), 0);
      c.due("11 forgets " + k, x.look(13), 0);
    }
    c.due("9 bytes, the highest first", x.feed(0x61736b73, 0x20393b20, 0x20202020, 0x20202020, 0x2020200a), 20);
    c.due("11 as fed", x.text(0), 1);
    c.due("11 asks 9", x.goodOf(0, 3), 9);
  }

  private static void p11Faults() {
    LarkExchange x = Check.town(2, 2, 2);
    c.faulty(x, 0, "rises;", 1, 5);
    c.faulty(x, 0, "Rises 1;", 1, 0);
    for (String letter : new String[] {"a", "z", "A", "Z", "x"}) c.faulty(x, 0, "rises" + letter + " 1;", 1, 0);
    for (String none : new String[] {"@", "[", "`", "{", ":", ".", ","}) c.faulty(x, 0, "rises" + none + " 1;", 1, 5);
    c.faulty(x, 0, ";".repeat(400), 1, 0);
    c.faulty(x, 0, "asks 1" + "+1".repeat(197), 1, 400);
    c.due("11 a full tape", Check.text(x, 0, "asks 1" + "+1".repeat(196) + " ;"), 1);
    c.due("11 and its sum", x.goodOf(0, 3), 197);
    c.faulty(x, 0, "  on 1;", 1, 2);
    c.faulty(x, 0, "rises 12345;", 1, 6);
    c.faulty(x, 0, "rises -1;", 1, 6);
    c.faulty(x, 0, "rises (1);", 1, 6);
    c.faulty(x, 0, "rises 1/day;", 1, 8);
    c.faulty(x, 0, "rises 1/0;", 2, 8);
    c.faulty(x, 0, "rises 1/0000;", 2, 8);
    c.faulty(x, 0, "rises 1 when;", 1, 12);
    c.faulty(x, 0, "rises 1 when 1;", 1, 14);
    c.faulty(x, 0, "rises 1 when (1);", 1, 15);
    c.faulty(x, 0, "rises 1 when 1<2<3;", 1, 16);
    c.faulty(x, 0, "rises 1 when 1=1);", 1, 16);
    c.faulty(x, 0, "rises 1 when (1=1;", 1, 17);
    c.faulty(x, 0, "rises 1 when 1=1 or;", 1, 19);
    c.faulty(x, 0, "rises 1 2;", 1, 8);
    c.faulty(x, 0, "rises 1\t;", 1, 7);
    c.faulty(x, 0, "rises 1; " + (char) 233, 1, 9);
    c.faulty(x, 0, "rises 1  ", 1, 9);
    c.faulty(x, 0, "rises 1/0 when (((((((((1=1", 2, 8);
    c.faulty(x, 0, "rises 1 when ((((not not not not (1=1))));", 3, 33);
    c.faulty(x, 0, "rises 1 when (((((((( 1 = 1 ))))))) ) and (((((((((", 3, 50);
    c.due("11 eight open", Check.text(x, 0, "rises 1 when ((((not not not not 1=1)))) and not not not not((((1=1))));"), 1);
    c.due("11 not that is closed", Check.text(x, 0, "rises 1 when not 1=1 or not 1=1 or not 1=1 or not 1=1 or not 1=1 or not 1=1 or not 1=1 or not 1=1 or not 1=1;"), 1);
    c.due("11 no blanks", Check.text(x, 0, "rises1when2<3and4<5;falls9;"), 2);
    c.due("11 sixteen", Check.text(x, 0, "asks 1;".repeat(16)), 16);
    c.faulty(x, 0, "asks 1;".repeat(16) + " asks", 3, 113);
    c.faulty(x, 0, "asks 1;".repeat(16) + " on", 1, 113);
    c.faulty(x, 1, "on 1000 wind 1;", 2, 3);
    c.faulty(x, 1, "on 1 wind 10;", 2, 10);
    c.faulty(x, 1, "on 1 boy 2 1;", 2, 9);
    c.faulty(x, 1, "on 1 boy 1 0;", 2, 11);
    c.faulty(x, 1, "on 1 boy 1 10;", 2, 11);
    c.faulty(x, 1, "on 1 boy 1;", 1, 10);
    c.faulty(x, 1, "on 1 calm 2;", 2, 10);
    c.faulty(x, 1, "on 1 seek 1 1;", 1, 12);
    c.faulty(x, 1, "on 1 good 1;", 1, 5);
    c.due("11 dawns", Check.text(x, 1, "on 999 wind 0; on 0 wind 9;on 1 boy 1 9; on 1 calm 0; on 1 seek 0001;"), 5);
    c.faulty(x, 1, "on 1 wind 1;".repeat(17), 3, 192);
    c.faulty(x, 2, "on 1 trader 2 buy 1 of 0;", 2, 12);
    c.faulty(x, 2, "on 1 trader 1 buy 0 of 0;", 2, 18);
    c.faulty(x, 2, "on 1 trader 1 sell 100 of 0;", 2, 19);
    c.faulty(x, 2, "on 1 trader 1 sell 99 of 2;", 2, 25);
    c.faulty(x, 2, "on 1 trader 1 sell 99 by 1;", 1, 22);
    c.faulty(x, 2, "on 1 trader 1 boy 1 of 1;", 1, 14);
    c.faulty(x, 2, "on 1000 trader 1 buy 1 of 1;", 2, 3);
    c.due("11 trades", Check.text(x, 2, "on 1 trader 1 buy 99 of 1; on 2 trader 0 sell 1 of 0;"), 2);
    c.faulty(x, 3, "good 2 by 0;", 2, 5);
    c.faulty(x, 3, "good 1 by 2;", 2, 10);
    c.faulty(x, 3, "good 1 of 1;", 1, 7);
    c.faulty(x, 3, "good 1 by 1", 1, 11);
    c.faulty(x, 3, "good 1 by 1;".repeat(17), 3, 192);
    c.due("11 bound", Check.text(x, 3, "good 1 by 1;good 0 by 1;good 1 by 0;"), 3);
    c.due("11 the last", x.goodOf(1, 1), 0);
    c.due("11 another", x.goodOf(0, 1), 1);
    Check.text(x, 3, "good 1 by 1;");
    c.due("11 others by none", x.goodOf(0, 1), -1);
    c.faulty(new LarkExchange(), 3, "good 0 by 0;", 2, 5);
  }

  private static void p13() {
    LarkExchange x = Check.town(2, 3, 0);
    for (int w = 0; w <= 7; w++) {
      c.due("13 no lark", x.of(2, w), -1);
      c.due("13 below", x.of(-1, w), -1);
    }
    c.due("13 another", x.of(0, 8), -1);
    c.due("13 what below", x.of(0, -1), -1);
    c.due("13 rises", x.of(0, 5), 8);
    c.due("13 falls", x.of(0, 6), 70);
    x.set(2, 0, 9);
    c.due("13 falls scared", x.of(0, 6), 970);
    x.set(0, 0, 0);
    c.due("13 falls held", x.of(0, 6), 1000);
    Check.text(x, 3, "good 0 by 1; good 2 by 1;");
    c.due("13 goods by it", x.of(1, 7), 5);
    c.due("13 none by it", x.of(0, 7), 0);
    x.set(1, 0, 40);
    x.set(6, 0, 6);
    x.days(2);
    Check.text(x, 0, "rises base+minute+lost; falls day*100+wind when top>0 or height<0;");
    c.due("13 rises by law", x.of(0, 5), 0);
    c.due("13 falls by law", x.of(0, 6), 206);
    Check.text(x, 0, "rises 9999; falls 1-2;");
    c.due("13 rises held", x.of(0, 5), 99);
    c.due("13 falls held", x.of(0, 6), 0);
    c.due("13 precedence", law(x, "7+2*3-8/3-1"), 10);
    c.due("13 from the left", law(x, "20-7-3"), 10);
    c.due("13 part by part", law(x, "99/10/2*3"), 12);
    c.due("13 towards 0", law(x, "9+1-17/2*2-9+8"), 0);
    c.due("13 wraps", law(x, "9999*9999*43/9999/10"), 41);
    c.due("13 and binds closer", law(x, "1 when 1=1 or 1=1 and 1=2; rises 2"), 1);
    c.due("13 brackets", law(x, "1 when (1=1 or 1=1) and 1=2; rises 2"), 2);
    c.due("13 not binds closest", law(x, "1 when not 1=2 and 1=2; rises 2"), 2);
    c.due("13 first that is so", law(x, "1 when 2<1; rises 2 when 2>1; rises 3"), 2);
    c.due("13 none is so", law(x, "1 when 2<2; rises 2 when 2>2; falls 9"), 5);
  }
  private static int law(LarkExchange x, String e) {
    Check.text(x, 0, "rises " + e + ";");
    return x.of(0, 5);
  }

  private static void p14() {
    LarkExchange x = Check.town(1, 2, 2);
    for (int w = 0; w <= 4; w++) {
      c.due("14 no good", x.goodOf(2, w), -2);
      c.due("14 below", x.goodOf(-1, w), -2);
    }
    c.due("14 another", x.goodOf(0, 5), -2);
    c.due("14 what below", x.goodOf(0, -1), -2);
    x.act(0, 0, 1);
    x.act(0, 1, 1);
    c.due("14 how much all have", x.goodOf(1, 4), 2);
    c.due("14 base", x.goodOf(1, 0), 10);
    x.set(1, 0, 129);
    c.due("14 asks by none", x.goodOf(0, 3), 10);
    Check.text(x, 3, "good 0 by 0;");
    c.due("14 asks", x.goodOf(0, 3), 22);
    c.due("14 by", x.goodOf(0, 1), 0);
    c.due("14 price as it was", x.goodOf(0, 2), 10);
    Check.text(x, 0, "asks voice*100+base when height = 129; asks voice+height+top+scared+lost+minute;");
    c.due("14 asks by law", x.goodOf(0, 3), 310);
    c.due("14 none's are 0", x.goodOf(1, 3), 1);
    Check.text(x, 0, "asks 1000;");
    c.due("14 held", x.goodOf(1, 3), 999);
  }

  private static void p15and16() {
    LarkExchange x = Check.town(0, 2, 2);
    c.due("15 no trader", x.who(2, 0), -10);
    c.due("15 below", x.who(-1, 0), -10);
    c.due("15 what 3", x.who(0, 3), -10);
    c.due("15 what 9", x.who(0, 9), -10);
    c.due("15 no good", x.who(0, 12), -10);
    c.due("15 far", x.who(0, Integer.MIN_VALUE), -10);
    x.act(0, 1, 1);
    x.act(0, 1, 1);
    x.set(4, 1, 50);
    c.due("15 worth", x.who(1, 2), 180);
    c.due("15 stock", x.who(1, 11), 2);
    c.due("15 the other", x.who(1, 10), 0);
    x.days(3);
    x.act(1, 1, 1);
    int[] sold = {3, 3, 1, 1};
    for (int w = 0; w < 4; w++) c.due("16 line", x.book(2, w), sold[w]);
    c.due("16 no line", x.book(3, 0), -10);
    c.due("16 below", x.book(-1, 0), -10);
    c.due("16 another", x.book(0, 4), -10);
    c.due("16 what below", x.book(0, -1), -10);
  }

  private static void p17and18() {
    LarkExchange x = Check.town(2, 2, 2);
    c.due("17 n 0", x.goes(0, 0), -100);
    c.due("17 n 61", x.goes(61, 0), -100);
    c.due("17 another", x.goes(1, 4), -100);
    c.due("17 what below", x.goes(1, -1), -100);
    Check.text(x, 3, "good 0 by 0; good 1 by 1;");
    Check.text(x, 0, "rises 50; falls 500 when minute = 4 and voice = 3; falls 499; asks height*2;");
    Check.text(x, 2, "on 1 trader 0 buy 1 of 0; on 2 trader 1 buy 9 of 1;");
    x.set(0, 1, 5);
    x.set(5, 0, 501);
    c.due("17 prices", x.goes(1, 0), 500 + 10);
    c.due("17 lost", x.goes(1, 2), 1);
    c.due("17 purses", x.goes(60, 1), 1 + 10);
    c.due("17 ruined", x.goes(1, 3), 0);
    c.due("17 no ruin with stock", x.goes(60, 3), 0);
    c.due("17 nothing stays", x.look(6) + x.look(7) + x.look(8) + x.look(13) + x.of(0, 1), 0);
    c.due("18 not within 60", x.ruin(0), -1);
    c.due("18 no trader", x.ruin(2), -1);
    c.due("18 below", x.ruin(-1), -1);
    Check.text(x, 2, "");
    Check.text(x, 0, "asks 9 when day < 59; asks 99;");
    x.set(5, 0, 50);
    c.due("18 behind sixty", x.ruin(0), 60);
    x.days(58);
    c.due("18 behind two", x.ruin(0), 2);
    x.days(2);
    c.due("18 now", x.ruin(0), 0);
    c.due("17 ruined then", x.goes(1, 3), 1);
    LarkExchange y = Check.town(0, 1, 1);
    Check.text(y, 0, "asks 9 when day < 60; asks 999;");
    c.due("18 behind sixty-one", y.ruin(0), -1);
  }

  private static void prices(LarkExchange x, int... row) {
    x.price(-1);
    for (int v : row) x.price(v);
  }

  private static void p19and20() {
    LarkExchange x = new LarkExchange();
    c.due("19 zero", x.price(0), -1);
    c.due("19 hundred", x.price(100), -1);
    c.due("19 below none", x.price(-2), -1);
    for (int i = 1; i <= 14; i++) c.due("19 how many", x.price(i % 2 == 0 ? 99 : 1), i);
    c.due("19 fifteenth", x.price(5), -1);
    for (int k = 1; k <= 5; k++) {
      c.due("20 most", x.trading(k, 0), 98 * k);
      c.due("20 times", x.trading(k, 1), k);
    }
    c.due("20 k 0", x.trading(0, 0), -1);
    c.due("20 k 6", x.trading(6, 1), -1);
    c.due("20 another", x.trading(1, 2), -1);
    c.due("20 what below", x.trading(1, -1), -1);
    c.due("19 none then", x.price(-1), 0);
    c.due("20 nothing told", x.trading(5, 0), 0);
    prices(x, 9, 7, 7, 3);
    c.due("20 nothing to gain", x.trading(3, 0), 0);
    c.due("20 no times", x.trading(3, 1), 0);
    prices(x, 1, 5, 5, 9, 2, 4);
    c.due("20 one", x.trading(1, 0), 8);
    c.due("20 two", x.trading(2, 0), 10);
    c.due("20 by two", x.trading(5, 1), 2);
    x.days(1);
    x.price(3);
    c.due("19 forgets nothing", x.look(13), 1);
  }

  private static void p21and22() {
    LarkExchange x = new LarkExchange();
    int[] wrong = {1, 10, 20, 100, 110, -11, 9, Integer.MAX_VALUE};
    for (int nd : wrong) c.due("21 nd " + nd, x.change(0, 1, nd), false);
    c.due("21 alike", x.change(2, 2, 11), false);
    c.due("21 a", x.change(4, 1, 11), false);
    c.due("21 b", x.change(0, -1, 11), false);
    c.due("21 none to take away", x.change(0, 1, 0), true);
    c.due("22 no way", x.round(0, 0), -1);
    x.change(0, 1, 99);
    x.change(1, 2, 92);
    x.change(2, 3, 34);
    c.due("22 not round yet", x.round(0, 1), -1);
    x.change(3, 0, 29);
    c.due("22 by three", x.round(0, 0), 3);
    c.due("22 below", x.round(0, 1), 4);
    c.due("22 from another", x.round(2, 0), 3);
    x.change(1, 0, 56);
    c.due("22 by one is more", x.round(0, 0), 5);
    c.due("22 from the other one", x.round(1, 1), 6);
    c.due("22 not through it", x.round(2, 0), 3);
    x.change(1, 0, 0);
    c.due("22 taken away", x.round(0, 0), 3);
    c.due("22 a", x.round(4, 0), -1);
    c.due("22 a below", x.round(-1, 0), -1);
    c.due("22 another", x.round(0, 2), -1);
    LarkExchange y = new LarkExchange();
    y.change(0, 1, 91);
    y.change(1, 0, 91);
    y.change(0, 2, 11);
    y.change(2, 0, 11);
    c.due("22 each once", y.round(2, 0), 1);
    y.days(1);
    y.change(0, 1, 0);
    c.due("21 forgets nothing", y.look(13), 1);
  }

  private static void p23to27() {
    LarkExchange x = new LarkExchange();
    int[] parts = {4, 2, 3, 14, 231};
    for (int w = 0; w <= 4; w++) c.due("23 ten by eleven", x.parts(10, 11, w), parts[w]);
    c.due("23 one", x.parts(1, 12, 1), 12);
    c.due("23 one alone", x.parts(1, 12, 2), -1);
    c.due("23 lowest", x.parts(4, 8, 0), 1);
    c.due("23 not less", x.parts(5, 5, 0), -1);
    c.due("23 more", x.parts(6, 5, 0), -1);
    c.due("23 a 0", x.parts(0, 5, 0), -1);
    c.due("23 b 13", x.parts(1, 13, 0), -1);
    c.due("23 another", x.parts(1, 2, 5), -1);
    c.due("23 what below", x.parts(1, 2, -1), -1);
    c.due("24 pieces", x.loaves(3, 2, 0), 4);
    c.due("24 above", x.loaves(6, 4, 1), 3);
    c.due("24 below", x.loaves(6, 4, 2), 2);
    c.due("24 whole", x.loaves(60, 60, 0), 60);
    c.due("24 a 61", x.loaves(61, 1, 0), -1);
    c.due("24 n 0", x.loaves(1, 0, 0), -1);
    c.due("24 n 61", x.loaves(1, 61, 0), -1);
    c.due("24 another", x.loaves(1, 1, 3), -1);
    c.due("25 takes", x.sticks(12345, 0), 2 + 5 + 5 + 4 + 5);
    c.due("25 most", x.sticks(99999, 0), 30);
    c.due("25 above", x.sticks(100000, 0), -1);
    c.due("25 below", x.sticks(-1, 0), -1);
    c.due("25 one stick", x.sticks(1, 1), -1);
    c.due("25 three", x.sticks(3, 1), 7);
    c.due("25 five", x.sticks(5, 1), 2);
    c.due("25 twelve", x.sticks(12, 1), 28);
    c.due("25 thirteen", x.sticks(13, 1), 68);
    c.due("25 seventeen", x.sticks(17, 1), 200);
    c.due("25 another", x.sticks(5, 2), -1);
    c.due("26 three", x.twos(3, 1), 7);
    c.due("26 minus two", x.twos(-2, 1), 2);
    c.due("26 zero", x.twos(0, 1), 0);
    c.due("26 digits", x.twos(-2, 0), 2);
    c.due("26 minus ten thousand", x.twos(-10000, 0), -1);
    c.due("26 another", x.twos(1, 2), -1);
    c.due("26 far", x.twos(9999, 1), bitsOf(9999));
    c.due("27 ninehundredninetynine", x.words(999, 0), "ninehundredninetynine".length());
    c.due("27 threehundredseventythree", x.words(373, 0), "threehundredseventythree".length());
    c.due("27 twohundredtwelve", x.words(212, 0), "twohundredtwelve".length());
    c.due("27 forty", x.words(40, 0), 5);
    c.due("27 longest", x.words(999, 1), 373);
    c.due("27 of zero", x.words(0, 1), 0);
    c.due("27 of three", x.words(2, 1), 0);
    c.due("27 below", x.words(-1, 0), -1);
    c.due("27 another", x.words(1, 2), -1);
  }
  /** The digits by -2, found by trying. */
  private static int bitsOf(int n) {
    for (int b = 0; b < 1 << 17; b++) {
      int v = 0;
      for (int i = 0, t = 1; i < 17; i++, t *= -2) v += (b >> i & 1) * t;
      if (v == n) return b;
    }
    return -1;
  }

  private static void p28and29() {
    LarkExchange x = new LarkExchange();
    prices(x, 5, 1, 4, 2, 4);
    c.due("28 most", x.window(2, 0), 6);
    c.due("28 the first of several", x.window(2, 1), 0);
    c.due("28 all", x.window(5, 0), 16);
    c.due("28 fewer", x.window(6, 0), 0);
    c.due("28 nowhere", x.window(6, 1), -1);
    c.due("28 k 0", x.window(0, 0), -1);
    c.due("28 k 15", x.window(15, 0), -1);
    c.due("28 another", x.window(1, 2), -1);
    c.due("29 midst", x.row(0), 4);
    c.due("29 couples", x.row(1), 4 + 0 + 1);
    c.due("29 records", x.row(2), 1);
    c.due("29 hats", x.row(3), 4 + 3 + 2 + 2);
    c.due("29 longest", x.row(4), 2);
    c.due("29 another", x.row(5), -1);
    c.due("29 below", x.row(-1), -1);
    prices(x, 9, 3);
    c.due("29 the lower one", x.row(0), 3);
    prices(x, 3, 3, 4, 5);
    c.due("29 alike are no couple", x.row(1), 0);
    c.due("29 alike are no record", x.row(2), 3);
    c.due("29 alike don't go up", x.row(4), 3);
    prices(x, 8);
    c.due("29 one alone", x.row(4), 1);
    prices(x);
    int[] none = {-1, 0, 0, 0, 0};
    for (int w = 0; w <= 4; w++) c.due("29 none told", x.row(w), none[w]);
  }

  private static void p30to32() {
    LarkExchange x = new LarkExchange();
    c.due("30 twelve up", x.fifths(12, 0), 531441);
    c.due("30 by", x.fifths(12, 1), 524288);
    c.due("30 twelve down", x.fifths(-12, 0), 1048576);
    c.due("30 by", x.fifths(-12, 1), 531441);
    c.due("30 none", x.fifths(0, 1), 1);
    c.due("30 beyond", x.fifths(-13, 0), -1);
    c.due("30 another", x.fifths(1, 2), -1);
    c.due("31 alike", x.way(3, 3), -1);
    c.due("31 eight", x.way(8, 3), -1);
    c.due("31 b below", x.way(3, -1), -1);
    c.due("31 a below", x.way(-2, 3), -1);
    for (int i = 1; i <= 14; i++) c.due("31 how many", x.way(i % 7, i % 7 + 1), i);
    c.due("31 fifteenth", x.way(0, 7), -1);
    c.due("31 the row's end", x.caught(0, 7), 7);
    c.due("32 from the midst", x.caught(3, 7), 4);
    c.due("32 the shorter side first", x.caught(3, 4), 1);
    c.due("32 alike", x.caught(4, 4), 0);
    c.due("32 a", x.caught(8, 0), -1);
    c.due("32 b", x.caught(0, -1), -1);
    c.due("32 b 8", x.caught(0, 8), -1);
    c.due("31 none then", x.way(-1, 99), 0);
    c.due("32 never", x.caught(0, 1), -1);
    for (int i = 0; i < 5; i++) x.way(i, (i + 1) % 5);
    c.due("32 a ring", x.caught(0, 2), -1);
    for (int i = 0; i < 5; i++) x.way(i, 5);
    c.due("32 with a hub", x.caught(0, 2), 2);
    c.due("32 from the hub", x.caught(5, 2), 1);
    x.days(1);
    x.way(6, 7);
    c.due("31 forgets nothing", x.look(13), 1);
  }

  private static void p33to36() {
    LarkExchange x = new LarkExchange();
    c.due("33 weight 0", x.sack(0, 1), -1);
    c.due("33 weight 31", x.sack(31, 1), -1);
    c.due("33 worth 0", x.sack(1, 0), -1);
    c.due("33 worth 100", x.sack(1, 100), -1);
    c.due("33 first", x.sack(10, 10), 1);
    c.due("33 second", x.sack(2, 2), 2);
    c.due("33 third", x.sack(3, 9), 3);
    c.due("34 as told if alike", x.packed(5, 2), 1);
    c.due("34 above", x.packed(5, 0), 11);
    c.due("34 ten whole", x.packed(14, 2), 2);
    c.due("34 all", x.packed(99, 0), 21);
    c.due("34 all below", x.packed(99, 1), 1);
    c.due("34 empty", x.packed(0, 0), 0);
    c.due("34 empty below", x.packed(0, 1), 1);
    c.due("34 w 100", x.packed(100, 0), -1);
    c.due("34 w below", x.packed(-1, 0), -1);
    c.due("34 another", x.packed(1, 3), -1);
    c.due("33 none then", x.sack(-1, 1000), 0);
    x.sack(6, 4);
    c.due("34 lowest terms", x.packed(2, 0), 4);
    c.due("34 lowest terms below", x.packed(2, 1), 3);
    for (int i = 2; i <= 8; i++) c.due("33 how many", x.sack(30, 99), i);
    c.due("33 ninth", x.sack(1, 1), -1);
    c.due("34 none behind it", x.packed(29, 2), 0);
    x.days(1);
    x.sack(-1, 0);
    c.due("33 forgets nothing", x.look(13), 1);
    c.due("35 unlike", x.shares(10, 0), 10);
    c.due("35 odd", x.shares(10, 1), 10);
    c.due("35 at most 3", x.shares(6, 103), 7);
    c.due("35 at most 1", x.shares(60, 101), 1);
    c.due("35 all", x.shares(6, 160), 11);
    c.due("35 one", x.shares(1, 0), 1);
    c.due("35 n 61", x.shares(61, 0), -1);
    c.due("35 k 61", x.shares(6, 161), -1);
    c.due("35 k 0", x.shares(6, 100), -1);
    c.due("35 another", x.shares(6, 2), -1);
    c.due("36 loses", x.game(98, 99, 9), -1);
    c.due("36 one left", x.game(97, 99, 9), 1);
    c.due("36 h", x.game(-1, 5, 2), -1);
    c.due("36 h 100", x.game(100, 100, 2), -1);
    c.due("36 s 101", x.game(99, 101, 2), -1);
    c.due("36 k 1", x.game(0, 5, 1), -1);
    c.due("36 k 10", x.game(0, 5, 10), -1);
    // of 4 with up to 2: by 1 the other goes on by 2 and wins; by 2 the other goes by 1 to 3 and wins
    c.due("36 four by two", x.game(0, 4, 2), -1);
    // of 4 with up to 3: by 3 the other is at 3 and must go to the sky or beyond
    c.due("36 four by three", x.game(0, 4, 3), 3);
  }

  private static void p37() {
    LarkExchange x = Check.town(1, 1, 1);
    x.state(5);
    c.due("37 nothing", x.undo(), false);
    Check.text(x, 0, "rises 99; falls 0; asks 33;");
    Check.text(x, 1, "on 0 wind 7; on 0 boy 0 5;");
    Check.text(x, 2, "on 0 trader 0 buy 1 of 0;");
    x.days(1);
    Check.text(x, 0, "rises 1; falls 9;");
    c.due("37 undo", x.undo(), true);
    c.due("37 day", x.look(6), 0);
    c.due("37 wind", x.look(3), 0);
    c.due("37 lost", x.look(4), 0);
    c.due("37 book", x.look(7), 0);
    c.due("37 price", x.goodOf(0, 2), 10);
    c.due("37 stock", x.who(0, 10), 0);
    c.due("37 purse", x.who(0, 0), 100);
    c.due("37 top", x.of(0, 2), 0);
    c.due("37 scared", x.of(0, 4), 0);
    c.due("37 the law stays", x.of(0, 5), 1);
    c.due("37 once", x.undo(), false);
    x.days(1);
    c.due("37 drawn", x.look(8) != 5, true);
    x.undo();
    c.due("37 state", x.look(8), 5);
    x.act(0, 0, 0);
    x.act(1, 0, 0);
    x.act(2, 0, 0);
    c.due("37 kept", x.look(13), 3);
    x.act(3, 0, 0);
    c.due("37 refused is not kept", x.look(13), 3);
    x.undo();
    c.due("37 scaring", x.of(0, 4), 0);
    x.undo();
    c.due("37 selling", x.who(0, 0), 90);
    c.due("37 its line", x.look(7), 1);
    x.undo();
    c.due("37 buying", x.who(0, 0), 100);
    x.days(9);
    c.due("37 six", x.look(13), 6);
    for (int i = 1; i <= 6; i++) {
      c.due("37 back", x.undo(), true);
      c.due("37 to", x.look(6), 9 - i);
    }
    c.due("37 no more", x.undo(), false);
    x.days(2);
    Check.text(x, 1, "");
    c.due("37 forgotten", x.undo(), false);
    x.days(1);
    x.feed(1, 2, 3, 4, 5);
    x.end(3);
    x.text(9);
    x.image(true);
    x.price(3);
    c.due("37 still there", x.undo(), true);
  }

  private static void p38() {
    LarkExchange x = Check.town(1, 1, 1);
    c.due("38 none", x.image(false), false);
    Check.text(x, 0, "asks 5; falls 1000;");
    Check.text(x, 1, "on 0 wind 3;");
    Check.text(x, 2, "on 0 trader 0 buy 2 of 0;");
    Check.text(x, 3, "good 0 by 0;");
    prices(x, 4, 9);
    x.change(0, 1, 32);
    x.change(1, 0, 11);
    x.way(0, 1);
    x.sack(2, 3);
    x.days(1);
    c.due("38 taken", x.image(true), true);
    c.due("38 the taking forgets nothing", x.look(13), 1);
    for (int again = 0; again < 2; again++) {
      x.lark(4);
      x.good(4);
      x.trader(4);
      x.set(6, 0, 8);
      for (int k = 0; k < 4; k++) Check.text(x, k, "");
      x.price(-1);
      x.change(0, 1, 0);
      x.way(-1, 0);
      x.sack(-1, 0);
      x.state(99);
      x.days(5);
      c.faulty(x, 0, "asks", 1, 4);
      x.feed(0x61736b73, 0x20373b20, 0x20202020, 0x20202020, 0x20202020);
      c.due("38 back", x.image(false), true);
      c.due("38 nothing to undo", x.undo(), false);
      int[] look = {1, 1, 1, 3, 0, 0, 1, 2, FIRST_STATE, 2, 1, 1, 1, 0};
      for (int w = 0; w <= 13; w++) c.due("38 look " + w, x.look(w), look[w]);
      c.due("38 asks", x.goodOf(0, 3), 5);
      c.due("38 by", x.goodOf(0, 1), 0);
      c.due("38 stock", x.who(0, 10), 2);
      c.due("38 trading", x.trading(1, 0), 5);
      c.due("38 round", x.round(0, 0), 3);
      c.due("38 caught", x.caught(0, 1), 1);
      c.due("38 packed", x.packed(9, 0), 3);
      c.due("38 book", x.book(0, 1), 0);
      c.due("38 second line", x.book(1, 1), 2);
      c.due("38 fault is not in it", x.fault(1), 4);
      c.due("38 nor the tape", x.end(20), true);
      c.due("38 the tape as told", x.text(0), 1);
      c.due("38 asks 7", x.goodOf(0, 3), 7);
    }
    LarkExchange y = Check.town(0, 2, 2);
    y.act(0, 0, 0);
    y.act(0, 1, 1);
    y.image(true);
    y.undo();
    y.undo();
    for (int i = 0; i < 3; i++) y.act(i % 2, 0, 1);
    y.days(1);
    y.image(false);
    int[] second = {0, 2, 1, 1};
    c.due("38 lines of the book", y.look(7), 2);
    for (int w = 0; w < 4; w++) c.due("38 written over since", y.book(1, w), second[w]);
    x.image(true);
    Check.text(x, 0, "asks 8;");
    x.image(false);
    c.due("38 taken anew", x.goodOf(0, 3), 7);
  }

  private static void p39() {
    LarkExchange x = Check.town(2, 3, 4);
    c.due("39 larks", x.look(0), 2);
    c.due("39 goods", x.look(1), 3);
    c.due("39 traders", x.look(2), 4);
    x.set(6, 5, 2);
    c.due("39 wind", x.look(3), 2);
    x.set(5, 2, 3);
    x.set(0, 1, 8);
    Check.text(x, 0, "rises 99 when voice > 3; falls 0;");
    Check.text(x, 1, "on 9 wind 1;on 9 wind 1;on 9 wind 1;");
    Check.text(x, 2, "on 9 trader 0 buy 1 of 0;");
    Check.text(x, 3, "good 0 by 0;good 0 by 0;good 0 by 0;good 0 by 0;");
    x.days(3);
    int[] look = {2, 3, 4, 2, 2, 4, 3, 2, 0, 2, 3, 1, 4, 3};
    for (int w = 0; w <= 13; w++) c.due("39 look " + w, x.look(w), look[w]);
    c.due("39 another", x.look(14), -100000);
    c.due("39 below", x.look(-1), -100000);
  }

  public static void main(String[] args) {
    c.due("NONE", LarkExchange.NONE, -1);
    p1(); p2(); p3(); p4(); p5(); p6(); p7();
    p8Bounds(); p8Larks(); p8Falls(); p8Trades();
    p9to12(); p11Faults(); p13(); p14(); p15and16(); p17and18(); p19and20(); p21and22();
    p23to27(); p28and29(); p30to32(); p33to36(); p37(); p38(); p39();
    c.ends();
  }
}
