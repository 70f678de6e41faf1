import com.sun.management.ThreadMXBean;
import java.lang.management.ManagementFactory;

/** All calls of a run live in one room: the object makes its rows when it is made, and none later. */
public final class RoomTest {
  private static final ThreadMXBean BEAN = (ThreadMXBean) ManagementFactory.getThreadMXBean();

  private static long made() { return BEAN.getThreadAllocatedBytes(Thread.currentThread().getId()); }

  private static int dearestCalls(LarkExchange x) {
    int sum = 0;
    for (int i = 0; i < 20; i++) {
      sum += x.days(1 + i % 3) + x.goes(60, 0) + x.ruin(0) + x.of(0, 5) + x.goodOf(0, 3);
      sum += x.caught(0, 7) + x.packed(50, 0) + x.trading(5, 1) + x.round(0, 0) + x.row(0) + x.window(3, 0);
      sum += x.shares(60, 160) + x.game(0, 100, 9) + x.words(999, 1) + x.parts(10, 11, 4) + x.sticks(42, 1);
      sum += x.feed(0x61736b73, 0x20397768, 0x656e2031, 0x3d313b20, 0x20202020) + x.text(0);
      sum += (x.act(0, 0, 0) ? 1 : 0) + (x.undo() ? 1 : 0) + (x.image(true) ? 1 : 0) + (x.image(false) ? 1 : 0);
    }
    return sum;
  }

  public static void main(String[] args) {
    Check c = new Check();
    int sum = 0;
    for (int i = 0; i < 3; i++) {
      long before = made();
      LarkExchange x = new LarkExchange();
      long forOne = made() - before;
      for (int j = 0; j < 14; j++) {
        x.lark(j % 10); x.good(1 + j); x.trader(100 * j); x.price(1 + j * 7 % 50); x.way(j % 7, j % 7 + 1); x.sack(1 + j, 9); x.change(j % 4, (j + 1) % 4, 32);
      }
      before = made();
      sum += dearestCalls(x);
      long forCalls = made() - before;
      // the first time through what the machine itself loads is counted, too
      if (i > 0) {
        c.due("an object takes less than 60,000 bytes (" + forOne + ")", forOne < 60000, true);
        c.due("calls make nothing (" + forCalls + " bytes)", forCalls < 2000, true);
      }
    }
    c.due("called", sum != 0, true);
    c.ends();
  }
}
