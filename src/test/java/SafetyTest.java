import java.util.Random;
import java.util.Set;

/** No call throws but what the document names, for any arguments, also behind the 512th call. */
public final class SafetyTest {
  private static final int CALLS = 700;
  private static final Set<Object> NAMED = Set.of(IllegalArgumentException.class,
      IllegalStateException.class, IndexOutOfBoundsException.class);
  private static final int[] ODD = {Integer.MIN_VALUE, Integer.MIN_VALUE + 1, -1000, -1, 0, 1, 2, 5, 6,
      59, 60, 61, 499, 500, 511, 512, 513, 999, 1000, 9999, 10000, Integer.MAX_VALUE - 1, Integer.MAX_VALUE};
  private static final Check check = new Check();

  public static void main(String[] args) {
    for (int run = 0; run < 60; run++) {
      anything(run);
    }
    onlyOrders();
    mostTrades();
    check.end();
  }

  private static void anything(int run) {
    Random random = new Random(run);
    Orderbook x = new Orderbook();
    for (int i = 0; i < CALLS; i++) {
      int call = random.nextInt(Face.CALLS);
      int[] a = new int[Face.arguments(call)];
      for (int j = 0; j < a.length; j++) {
        a[j] = random.nextInt(6) == 0 ? ODD[random.nextInt(ODD.length)] : random.nextInt(6);
      }
      named(run, i, call, Face.call(x, call, a));
    }
  }

  private static void named(int run, int i, int call, Object got) {
    boolean isNamed = got instanceof Class ? NAMED.contains(got) : !(got instanceof Exception);
    check.is("run " + run + ", call " + i + " (" + call + ") " + got, isNamed, true);
  }

  /** More than 512 are told: they are not kept, and nothing is thrown. */
  private static void onlyOrders() {
    Orderbook x = new Orderbook();
    for (int i = 0; i < CALLS; i++) {
      int side = i & 1;
      named(-1, i, 0, Face.call(x, 0, 1, side, 500, 1, i % 6));
    }
    check.is("512 were told", x.house(13), 512);
    check.is("sound", x.isSound(), true);
  }

  /** 256 hidden orders of 500 parts against 256 that take them, the most trades that there can be. */
  private static void mostTrades() {
    Orderbook x = new Orderbook();
    for (int i = 0; i < 250; i++) {
      int seller = i % 2;
      check.is("hidden", x.hidden(1, 1 + i, 500, 1, seller), 2 * i);
      check.is("taker", x.order(0, 0, 999, 500, 1 - seller), 2 * i + 1);
    }
    check.is("trades", x.house(10), 125000);
    check.is("pieces", x.minute(0, 1), 125000);
    check.is("the last one", x.trade(124999, 0), 250);
    check.is("a middle one", x.tape(62500), "1x126 1x126 1x126 1x126 1x126 1x126 1x126 1x126");
    check.is("its orders", x.trade(62500, 2) * 1000 + x.trade(62500, 3), 251250);
    check.is("sound", x.isSound(), true);
    check.is("past", x.past(251, 10), 62500);
  }
}
