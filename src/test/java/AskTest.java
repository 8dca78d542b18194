/** Promises 19 to 27: what is asked of orders and prices. */
public final class AskTest {
  private static final Class<?> ARGUMENT = IllegalArgumentException.class;
  private static final Class<?> INDEX = IndexOutOfBoundsException.class;
  private static final Check check = new Check();

  public static void main(String[] args) {
    best();
    level();
    ofOrder();
    queues();
    depthAndBetween();
    text();
    sleepers();
    check.end();
  }

  /** BUY 30: 0 (5), 2 (9 hidden, 4 shown); 20: 1 (6). SELL 40: 3 (7); 50: 4 (8). Asleep: 5, 6, 7. */
  private static Orderbook sample() {
    Orderbook x = new Orderbook();
    x.order(0, 0, 30, 5, 0);
    x.order(0, 0, 20, 6, 1);
    x.hidden(0, 30, 9, 4, 2);
    x.order(3, 1, 40, 7, 3);
    x.order(0, 1, 50, 8, 4);
    x.sleeper(0, 60, 60, 1, 5);
    x.sleeper(1, 10, 10, 1, 5);
    x.sleeper(0, 61, 60, 1, 5);
    return x;
  }

  private static void best() {
    Orderbook x = sample();
    check.is("19 buy", x.best(0), 30);
    check.is("19 sell", x.best(1), 40);
    check.fails("19 below", ARGUMENT, () -> x.best(-1));
    check.fails("19 above", ARGUMENT, () -> x.best(2));
    check.is("19 none", new Orderbook().best(1), -1);
  }

  private static void level() {
    Orderbook x = sample();
    int[][] due = {{30, 9, 14, 2, 0, 2}, {20, 6, 6, 1, 1, 1}, {-1, -1, -1, -1, -1, -1}};
    for (int nth = 0; nth < 3; nth++) {
      for (int what = 0; what <= 5; what++) {
        check.is("20 " + nth + " " + what, x.level(0, nth, what), due[nth][what]);
      }
    }
    check.is("20 sell goes up", x.level(1, 0, 0) * 100 + x.level(1, 1, 0), 4050);
    check.is("20 far", x.level(1, Integer.MAX_VALUE, 0), -1);
    check.fails("20 side", ARGUMENT, () -> x.level(2, 0, 0));
    check.fails("20 nth", ARGUMENT, () -> x.level(0, -1, 0));
    check.fails("20 what below", ARGUMENT, () -> x.level(0, 0, -1));
    check.fails("20 what above", ARGUMENT, () -> x.level(0, 9, 6));
  }

  private static void ofOrder() {
    Orderbook x = sample();
    x.order(0, 1, 30, 6, 4);
    int[][] due = {{0, 30, 5, 0, 0, 0, 0, 2, 5, 0, -1}, {0, 20, 6, 1, 0, 6, 6, 0, 0, 0, 0},
        {0, 30, 9, 2, 4, 8, 3, 0, 1, 0, 0}, {1, 40, 7, 3, 3, 7, 7, 0, 0, 0, 0},
        {1, 50, 8, 4, 0, 8, 8, 0, 0, 0, 0}, {0, 60, 1, 5, 5, 1, 0, 1, 0, 60, -1}};
    for (int order = 0; order < due.length; order++) {
      for (int what = 0; what <= 10; what++) {
        check.is("21 " + order + " " + what, x.ofOrder(order, what), due[order][what]);
      }
    }
    x.order(0, 1, 50, 1, 0);
    check.is("21 ahead", x.ofOrder(9, 10), 1);
    check.fails("21 below", INDEX, () -> x.ofOrder(-1, 0));
    check.fails("21 above, ahead of what", INDEX, () -> x.ofOrder(10, 11));
    check.fails("21 what below", ARGUMENT, () -> x.ofOrder(0, -1));
    check.fails("21 what above", ARGUMENT, () -> x.ofOrder(0, 11));
    x.cancel(1);
    check.is("21 ended", x.ofOrder(1, 7) * 10 + x.ofOrder(1, 5), 30);
  }

  private static void queues() {
    Orderbook x = sample();
    check.is("22 first", x.first(0, 30), 0);
    check.is("22 of the other side", x.first(1, 30), -9);
    check.is("22 nobody", x.first(0, 31), -9);
    check.is("22 counted", x.house(14), 2);
    check.fails("22 side", ARGUMENT, () -> x.first(2, 30));
    check.fails("22 price below", ARGUMENT, () -> x.first(0, 0));
    check.fails("22 price above", ARGUMENT, () -> x.first(0, 1000));
    check.is("22 thrown is not counted", x.house(14), 2);
    check.is("23 zeroth", x.queued(0, 30, 0), 0);
    check.is("23 next", x.queued(0, 30, 1), 2);
    check.is("23 not so many", x.queued(0, 30, 2), -1);
    check.is("23 nobody", x.queued(0, 999, 0), -1);
    check.fails("23 side", ARGUMENT, () -> x.queued(-1, 30, 0));
    check.fails("23 price", ARGUMENT, () -> x.queued(0, 1000, 0));
    check.fails("23 nth", ARGUMENT, () -> x.queued(0, 30, -1));
    check.is("23 not counted", x.house(14), 2);
  }

  private static void depthAndBetween() {
    Orderbook x = sample();
    check.is("24 buy at the best", x.depth(0, 30), 14);
    check.is("24 buy deeper", x.depth(0, 20), 20);
    check.is("24 buy none better", x.depth(0, 31), 0);
    check.is("24 sell", x.depth(1, 49), 7);
    check.is("24 sell all", x.depth(1, 999), 15);
    check.fails("24 side", ARGUMENT, () -> x.depth(2, 30));
    check.fails("24 price below", ARGUMENT, () -> x.depth(0, 0));
    check.fails("24 price above", ARGUMENT, () -> x.depth(0, 1000));
    check.is("25 both ends are in", x.between(0, 20, 30), 20);
    check.is("25 one price", x.between(0, 30, 30), 14);
    check.is("25 none", x.between(0, 21, 29), 0);
    check.is("25 of the other side", x.between(1, 1, 999), 15);
    check.is("25 the wrong way", x.between(0, 30, 29), -9);
    check.is("25 counted", x.house(14), 1);
    check.fails("25 side", ARGUMENT, () -> x.between(2, 1, 1));
    check.fails("25 from", ARGUMENT, () -> x.between(0, 0, 1));
    check.fails("25 to, ahead of the wrong way", ARGUMENT, () -> x.between(0, 5, 0));
    check.fails("25 to above", ARGUMENT, () -> x.between(0, 5, 1000));
  }

  private static void text() {
    Orderbook x = sample();
    check.is("26 buy", x.text(0), "30x9 20x6");
    check.is("26 sell", x.text(1), "40x7 50x8");
    check.is("26 none", new Orderbook().text(0), "-");
    check.fails("26 below", ARGUMENT, () -> x.text(-1));
    check.fails("26 above", ARGUMENT, () -> x.text(2));
  }

  private static void sleepers() {
    Orderbook x = sample();
    check.is("27 buy", x.sleepers(0), 2);
    check.is("27 sell", x.sleepers(1), 1);
    check.fails("27 below", ARGUMENT, () -> x.sleepers(-1));
    check.fails("27 above", ARGUMENT, () -> x.sleepers(2));
  }
}
