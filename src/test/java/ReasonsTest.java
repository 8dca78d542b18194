/** Section 2: each of the eight reasons, the last that is taken and the first that is not, and their order. */
public final class ReasonsTest {
  private static final Check check = new Check();

  public static void main(String[] args) {
    numbers();
    halted();
    tickOfPrices();
    tickOfTriggers();
    tickOfTen();
    bandOnBothSides();
    bandOfNothing();
    bandOfAll();
    bandNotOfTriggers();
    limitOfBuy();
    limitOfSell();
    limitCountsWhatIsLeft();
    limitCountsThePosition();
    limitBelowZero();
    limitAtFirst();
    limitAtMost();
    sixtyWait();
    sixtyWaitAndSleep();
    sixtyAndChange();
    sixtyOfEachKind();
    gathering();
    onlyToWaitBuys();
    onlyToWaitSells();
    onlyToWaitLooksAtAll();
    allOrNoneEnough();
    allOrNoneOfTheMost();
    allOrNoneOwners();
    allOrNoneOfWhatIsLeft();
    allOrNoneReach();
    allOrNoneBand();
    allOrNoneBandAtTheBest();
    orderOfReasons();
    orderOfLaterReasons();
    orderOfReasonsOfHidden();
    orderOfReasonsOfSleepers();
    orderOfReasonsOfChange();
    check.end();
  }

  /** Numbers are of those that are taken: who is refused has none. */
  private static void numbers() {
    Orderbook x = new Orderbook();
    check.is("s1 the first number", x.order(0, 0, 10, 1, 0), 0);
    check.refuses("s1 none is reached", 8, x, () -> x.order(2, 1, 20, 1, 1));
    check.is("s1 the next number", x.hidden(0, 10, 1, 1, 0), 1);
    check.refuses("s1 it is reached", 7, x, () -> x.order(3, 1, 10, 1, 1));
    check.is("s1 the next number again", x.sleeper(0, 10, 10, 1, 0), 2);
    check.is("32 taken", x.house(5), 3);
    check.fails("s1 no fourth", IndexOutOfBoundsException.class, () -> x.ofOrder(3, 0));
    check.is("s1 the last one", x.ofOrder(2, 0), 0);
  }

  private static void halted() {
    Orderbook x = new Orderbook();
    x.order(0, 0, 10, 1, 0);
    x.halt();
    for (int kind = 0; kind <= 3; kind++) {
      int k = kind;
      check.refuses("reason 1, kind " + kind, 1, x, () -> x.order(k, 1, 20, 1, 1));
    }
    check.refuses("reason 1, hidden", 1, x, () -> x.hidden(1, 20, 1, 1, 1));
    check.refuses("reason 1, sleeper", 1, x, () -> x.sleeper(1, 20, 20, 1, 1));
    check.refuses("reason 1, change", 1, x, () -> x.change(0, 10));
    check.is("33 seven times", x.refused(1), 7);
    x.resume();
    check.is("open again", x.order(0, 1, 20, 1, 1), 1);
    x.halt();
    x.gather();
    check.is("gathering is not halted", x.order(0, 1, 20, 1, 1), 2);
  }

  private static void tickOfPrices() {
    Orderbook x = new Orderbook();
    x.tick(7);
    check.is("reason 2, one tick", x.order(0, 0, 7, 1, 0), 0);
    check.refuses("reason 2, below", 2, x, () -> x.order(0, 0, 6, 1, 0));
    check.refuses("reason 2, above", 2, x, () -> x.order(0, 0, 8, 1, 0));
    check.is("reason 2, the last tick", x.hidden(1, 994, 1, 1, 0), 1);
    check.refuses("reason 2, behind it", 2, x, () -> x.hidden(1, 995, 1, 1, 0));
    check.refuses("reason 2, change", 2, x, () -> x.change(0, 8));
    check.is("change to a tick", x.change(0, 14), 1);
    x.tick(1);
    check.is("tick 1 takes all", x.order(0, 0, 1, 1, 0), 2);
    check.is("tick 1 takes all", x.order(0, 1, 999, 1, 0), 3);
  }

  private static void tickOfTriggers() {
    Orderbook x = new Orderbook();
    x.tick(2);
    check.is("reason 2, both are", x.sleeper(0, 10, 20, 1, 0), 0);
    check.refuses("reason 2, the trigger", 2, x, () -> x.sleeper(0, 11, 20, 1, 0));
    check.refuses("reason 2, the price", 2, x, () -> x.sleeper(0, 10, 21, 1, 0));
    check.refuses("reason 2, both are not", 2, x, () -> x.sleeper(0, 11, 21, 1, 0));
    x.gather();
    check.refuses("reason 2, the trigger, gathering", 2, x, () -> x.sleeper(0, 11, 20, 1, 0));
    check.refuses("reason 2, the price, gathering", 2, x, () -> x.sleeper(0, 10, 21, 1, 0));
    check.is("reason 2, both are, gathering", x.sleeper(0, 10, 20, 1, 0), 1);
  }

  private static void tickOfTen() {
    Orderbook x = new Orderbook();
    x.tick(10);
    check.is("reason 2, least", x.order(0, 0, 10, 1, 0), 0);
    check.is("reason 2, most", x.order(0, 1, 990, 1, 0), 1);
    for (int price = 991; price <= 999; price++) {
      int p = price;
      check.refuses("reason 2, " + price, 2, x, () -> x.order(0, 1, p, 1, 0));
    }
    check.refuses("reason 2, 1", 2, x, () -> x.order(0, 0, 1, 1, 0));
  }

  private static void bandOnBothSides() {
    Orderbook x = new Orderbook();
    x.band(300, 10);
    check.is("reason 3, below", x.order(0, 0, 290, 1, 0), 0);
    check.refuses("reason 3, one more below", 3, x, () -> x.order(0, 0, 289, 1, 0));
    check.is("reason 3, above", x.order(0, 1, 310, 1, 0), 1);
    check.refuses("reason 3, one more above", 3, x, () -> x.order(0, 1, 311, 1, 0));
    check.is("reason 3, hidden", x.hidden(0, 290, 1, 1, 0), 2);
    check.refuses("reason 3, hidden off", 3, x, () -> x.hidden(0, 289, 1, 1, 0));
    check.is("reason 3, sleeper", x.sleeper(1, 300, 310, 1, 0), 3);
    check.refuses("reason 3, sleeper off", 3, x, () -> x.sleeper(1, 300, 311, 1, 0));
    check.is("reason 3, change below", x.change(0, 290), 1);
    check.refuses("reason 3, change off below", 3, x, () -> x.change(0, 289));
    check.is("reason 3, change above", x.change(1, 310), 1);
    check.refuses("reason 3, change off above", 3, x, () -> x.change(1, 311));
  }

  private static void bandOfNothing() {
    Orderbook x = new Orderbook();
    x.band(300, 0);
    check.is("reason 3, band 0", x.order(0, 0, 300, 1, 0), 0);
    check.refuses("reason 3, band 0 below", 3, x, () -> x.order(0, 0, 299, 1, 0));
    check.refuses("reason 3, band 0 above", 3, x, () -> x.order(0, 1, 301, 1, 0));
  }

  private static void bandOfAll() {
    Orderbook x = new Orderbook();
    x.band(1, 998);
    check.is("reason 3, all up", x.order(0, 1, 999, 1, 0), 0);
    x.band(1, 997);
    check.refuses("reason 3, not all up", 3, x, () -> x.order(0, 1, 999, 1, 0));
    x.band(999, 998);
    check.is("reason 3, all down", x.order(0, 0, 1, 1, 0), 1);
    x.band(999, 997);
    check.refuses("reason 3, not all down", 3, x, () -> x.order(0, 0, 1, 1, 0));
    x.band(999, 999);
    check.is("reason 3, the widest", x.order(0, 0, 1, 1, 0), 2);
  }

  private static void bandNotOfTriggers() {
    Orderbook x = new Orderbook();
    x.band(300, 5);
    check.is("reason 3, a trigger above", x.sleeper(0, 999, 300, 1, 0), 0);
    check.is("reason 3, a trigger below", x.sleeper(1, 1, 300, 1, 0), 1);
  }

  private static void limitOfBuy() {
    Orderbook x = new Orderbook();
    x.limit(2, 10);
    check.refuses("reason 4, above", 4, x, () -> x.order(0, 0, 100, 11, 2));
    check.is("reason 4, as much", x.order(0, 0, 100, 10, 2), 0);
    check.refuses("reason 4, one more", 4, x, () -> x.order(0, 0, 100, 1, 2));
    check.is("reason 4, of the other side", x.order(0, 1, 200, 10, 2), 1);
    check.is("reason 4, of another owner", x.order(0, 0, 100, 11, 3), 2);
  }

  private static void limitOfSell() {
    Orderbook x = new Orderbook();
    x.limit(2, 10);
    check.refuses("reason 4, hidden above", 4, x, () -> x.hidden(1, 100, 11, 1, 2));
    check.is("reason 4, hidden, as much", x.hidden(1, 100, 6, 1, 2), 0);
    check.refuses("reason 4, sleeper above", 4, x, () -> x.sleeper(1, 100, 100, 5, 2));
    check.is("reason 4, sleeper, as much", x.sleeper(1, 100, 100, 4, 2), 1);
    check.refuses("reason 4, who sleeps counts", 4, x, () -> x.order(0, 1, 100, 1, 2));
    check.is("reason 4, of the other side", x.order(0, 0, 50, 10, 2), 2);
  }

  private static void limitCountsWhatIsLeft() {
    Orderbook x = new Orderbook();
    x.limit(2, 10);
    x.order(0, 0, 100, 10, 2);
    x.less(0, 4);
    check.refuses("reason 4, above what was taken away", 4, x, () -> x.order(0, 0, 100, 5, 2));
    check.is("reason 4, what was taken away", x.order(0, 0, 100, 4, 2), 1);
    x.cancel(0);
    check.refuses("reason 4, above what has ended", 4, x, () -> x.order(0, 0, 100, 7, 2));
    check.is("reason 4, what has ended", x.order(0, 0, 100, 6, 2), 2);
    x.limit(2, 9);
    check.is("12 those there stay", x.house(6), 2);
    check.refuses("reason 4, the limit is smaller now", 4, x, () -> x.order(0, 0, 100, 1, 2));
  }

  private static void limitCountsThePosition() {
    Orderbook x = new Orderbook();
    x.limit(2, 10);
    x.order(0, 1, 100, 4, 3);
    x.order(0, 0, 100, 4, 2);
    check.is("31 the position", x.account(2, 0), 4);
    check.refuses("reason 4, above with a position", 4, x, () -> x.order(0, 0, 100, 7, 2));
    check.is("reason 4, with a position", x.order(0, 0, 100, 6, 2), 2);
    check.refuses("reason 4, above less the position", 4, x, () -> x.order(0, 1, 200, 15, 2));
    check.is("reason 4, less the position", x.order(0, 1, 200, 14, 2), 3);
  }

  private static void limitBelowZero() {
    Orderbook x = new Orderbook();
    x.order(0, 0, 100, 5, 3);
    x.order(0, 1, 100, 5, 2);
    x.limit(2, 0);
    check.refuses("reason 4, limit 0, above", 4, x, () -> x.order(0, 0, 90, 6, 2));
    check.is("reason 4, limit 0, a position below 0", x.order(0, 0, 90, 5, 2), 2);
    check.refuses("reason 4, limit 0, to sell", 4, x, () -> x.order(0, 1, 200, 1, 2));
    x.limit(4, 0);
    check.refuses("reason 4, limit 0, to buy", 4, x, () -> x.order(0, 0, 90, 1, 4));
  }

  private static void limitAtFirst() {
    Orderbook x = new Orderbook();
    for (int i = 0; i < 9; i++) {
      x.order(0, 0, 10, 500, 0);
    }
    check.is("s4 5000 at first", x.order(0, 0, 10, 500, 0), 9);
    check.refuses("s4 not 5001", 4, x, () -> x.order(0, 0, 10, 1, 0));
  }

  private static void limitAtMost() {
    Orderbook x = new Orderbook();
    x.limit(0, 9999);
    for (int i = 0; i < 19; i++) {
      x.order(0, 0, 10, 500, 0);
    }
    check.refuses("s4 not 10000", 4, x, () -> x.order(0, 0, 10, 500, 0));
    check.is("s4 9999 at most", x.order(0, 0, 10, 499, 0), 19);
  }

  private static Orderbook crowd(int waiting, int sleeping) {
    Orderbook x = new Orderbook();
    for (int i = 0; i < waiting; i++) {
      x.order(0, i % 2, i % 2 == 0 ? 100 : 200, 1, 0);
    }
    for (int i = 0; i < sleeping; i++) {
      x.sleeper(i % 2, i % 2 == 0 ? 900 : 10, i % 2 == 0 ? 100 : 200, 1, 1);
    }
    return x;
  }

  private static void sixtyWait() {
    Orderbook x = crowd(59, 0);
    check.is("reason 5, the sixtieth", x.order(0, 0, 100, 1, 0), 59);
    check.is("32 sixty wait", x.house(6), 60);
    check.refuses("reason 5, one more", 5, x, () -> x.order(0, 0, 100, 1, 0));
    check.is("38 sixty are sound", x.isSound(), true);
    x.cancel(7);
    check.is("reason 5, one has ended", x.order(0, 0, 100, 1, 0), 60);
    check.refuses("reason 5, one more again", 5, x, () -> x.order(0, 0, 100, 1, 0));
    x.cancelAll(0);
    check.is("reason 5, all have ended", x.order(0, 0, 100, 1, 0), 61);
  }

  private static void sixtyWaitAndSleep() {
    Orderbook x = crowd(30, 29);
    check.is("reason 5, the sixtieth sleeps", x.sleeper(0, 900, 100, 1, 1), 59);
    check.is("32 half of them", x.house(6) * 100 + x.house(7), 3030);
    check.refuses("reason 5, no more sleeps", 5, x, () -> x.sleeper(0, 900, 100, 1, 1));
    check.refuses("reason 5, no more waits", 5, x, () -> x.order(0, 0, 100, 1, 1));
    Orderbook y = crowd(0, 59);
    check.is("reason 5, the sixtieth waits", y.order(0, 0, 100, 1, 1), 59);
    check.refuses("reason 5, none more waits", 5, y, () -> y.order(0, 0, 100, 1, 1));
  }

  /** A change is refused for the reasons 1 to 3 alone. */
  private static void sixtyAndChange() {
    Orderbook x = crowd(60, 0);
    x.limit(0, 0);
    check.is("8 none is too many, no limit", x.change(0, 101), 1);
    check.is("8 it waits there", x.text(0), "101x1 100x29");
  }

  private static void sixtyOfEachKind() {
    Orderbook x = crowd(60, 0);
    check.refuses("reason 5, at once", 5, x, () -> x.order(1, 0, 200, 1, 2));
    check.refuses("reason 5, all or none", 5, x, () -> x.order(2, 0, 200, 1, 2));
    check.refuses("reason 5, only to wait", 5, x, () -> x.order(3, 0, 100, 1, 2));
    check.refuses("reason 5, hidden", 5, x, () -> x.hidden(0, 100, 1, 1, 2));
    check.refuses("reason 5, sleeper", 5, x, () -> x.sleeper(0, 900, 100, 1, 2));
    x.cancel(0);
    check.is("taken again with 59", x.order(1, 0, 200, 2, 2), 60);
    check.is("two of them were sold", x.house(6), 57);
  }

  private static void gathering() {
    Orderbook x = new Orderbook();
    x.gather();
    check.is("reason 6, plain", x.order(0, 0, 100, 1, 0), 0);
    for (int kind = 1; kind <= 3; kind++) {
      int k = kind;
      check.refuses("reason 6, kind " + kind, 6, x, () -> x.order(k, 0, 100, 1, 0));
    }
    check.is("reason 6, hidden", x.hidden(0, 100, 1, 1, 0), 1);
    check.is("reason 6, sleeper", x.sleeper(0, 100, 100, 1, 0), 2);
    x.auction();
    for (int kind = 1; kind <= 3; kind++) {
      check.is("open, kind " + kind, x.order(kind, 1, kind == 3 ? 101 : 100, 1, 1), 2 + kind);
    }
  }

  private static void onlyToWaitBuys() {
    Orderbook x = new Orderbook();
    check.is("reason 7, nobody there", x.order(3, 0, 999, 1, 0), 0);
    x.cancel(0);
    x.order(0, 1, 100, 1, 1);
    check.refuses("reason 7, above", 7, x, () -> x.order(3, 0, 101, 1, 0));
    check.refuses("reason 7, the same price", 7, x, () -> x.order(3, 0, 100, 1, 0));
    check.is("reason 7, one below", x.order(3, 0, 99, 1, 0), 2);
    check.is("it waits", x.text(0), "99x1");
  }

  private static void onlyToWaitSells() {
    Orderbook x = new Orderbook();
    check.is("reason 7, nobody there", x.order(3, 1, 1, 1, 0), 0);
    x.cancel(0);
    x.order(0, 0, 100, 1, 1);
    check.refuses("reason 7, below", 7, x, () -> x.order(3, 1, 99, 1, 0));
    check.refuses("reason 7, the same price", 7, x, () -> x.order(3, 1, 100, 1, 0));
    check.is("reason 7, one above", x.order(3, 1, 101, 1, 0), 2);
    check.is("it waits", x.text(1), "101x1");
  }

  private static void onlyToWaitLooksAtAll() {
    Orderbook x = new Orderbook();
    x.sleeper(1, 1, 50, 1, 0);
    check.is("reason 7, one that sleeps is not reached", x.order(3, 0, 60, 1, 1), 1);
    x.order(0, 1, 100, 1, 0);
    check.refuses("reason 7, its own", 7, x, () -> x.order(3, 0, 100, 1, 0));
    x.band(115, 10);
    check.refuses("reason 7, one off the band", 7, x, () -> x.order(3, 0, 105, 1, 1));
  }

  private static void allOrNoneEnough() {
    Orderbook x = new Orderbook();
    check.refuses("reason 8, nobody there", 8, x, () -> x.order(2, 0, 999, 1, 0));
    x.order(0, 1, 100, 4, 1);
    x.hidden(1, 101, 6, 1, 2);
    x.sleeper(1, 1, 50, 9, 3);
    check.refuses("reason 8, one too few", 8, x, () -> x.order(2, 0, 101, 11, 0));
    check.is("reason 8, as many", x.order(2, 0, 101, 10, 0), 3);
    check.is("all of it", x.ofOrder(3, 7) * 100 + x.ofOrder(3, 8), 210);
    check.refuses("reason 8, nobody is left", 8, x, () -> x.order(2, 0, 999, 1, 0));
  }

  private static void allOrNoneOfTheMost() {
    Orderbook x = new Orderbook();
    x.order(0, 1, 100, 499, 1);
    check.refuses("reason 8, 499 of 500", 8, x, () -> x.order(2, 0, 100, 500, 0));
    x.order(0, 1, 100, 1, 2);
    check.is("reason 8, 500 of 500", x.order(2, 0, 100, 500, 0), 2);
    check.is("all 500", x.ofOrder(2, 8), 500);
  }

  private static void allOrNoneOwners() {
    Orderbook x = new Orderbook();
    x.order(0, 0, 100, 4, 0);
    x.order(0, 0, 99, 5, 1);
    check.refuses("reason 8, its own do not count", 8, x, () -> x.order(2, 1, 99, 6, 0));
    check.is("reason 8, others do", x.order(2, 1, 99, 5, 0), 2);
    check.is("its own has ended", x.ofOrder(0, 7) * 10 + x.account(0, 6), 31);
    check.is("done", x.ofOrder(2, 7), 2);
  }

  private static void allOrNoneOfWhatIsLeft() {
    Orderbook x = new Orderbook();
    x.order(0, 1, 100, 9, 1);
    x.order(0, 0, 100, 3, 2);
    x.less(0, 2);
    x.order(0, 1, 101, 7, 1);
    check.refuses("reason 8, LEFT, not PIECES", 8, x, () -> x.order(2, 0, 100, 5, 0));
    check.refuses("reason 8, LEFT of both", 8, x, () -> x.order(2, 0, 101, 12, 0));
    check.is("reason 8, all that is left", x.order(2, 0, 101, 11, 0), 3);
    check.is("nobody waits", x.house(6), 0);
  }

  private static void allOrNoneReach() {
    Orderbook x = new Orderbook();
    x.order(0, 0, 100, 4, 1);
    x.order(0, 0, 99, 4, 1);
    check.refuses("reason 8, not reached", 8, x, () -> x.order(2, 1, 100, 5, 0));
    check.is("reason 8, reached", x.order(2, 1, 99, 5, 0), 2);
    Orderbook y = new Orderbook();
    y.order(0, 1, 100, 4, 1);
    y.order(0, 1, 101, 4, 1);
    check.refuses("reason 8, not reached by buy", 8, y, () -> y.order(2, 0, 100, 5, 0));
    check.is("reason 8, reached by buy", y.order(2, 0, 101, 5, 0), 2);
  }

  /** Of a seller the band ends what it could trade behind better prices only from above. */
  private static void allOrNoneBand() {
    Orderbook x = new Orderbook();
    x.order(0, 0, 100, 4, 1);
    x.order(0, 0, 99, 4, 1);
    x.band(90, 9);
    check.refuses("reason 8, the best is off the band", 8, x, () -> x.order(2, 1, 99, 1, 0));
    x.band(90, 10);
    check.is("reason 8, the best is at its edge", x.order(2, 1, 99, 5, 0), 2);
  }

  private static void allOrNoneBandAtTheBest() {
    Orderbook x = new Orderbook();
    x.order(0, 1, 100, 4, 1);
    x.order(0, 1, 105, 4, 1);
    x.band(110, 9);
    check.refuses("reason 8, over from the first one off", 8, x, () -> x.order(2, 0, 105, 4, 0));
    x.band(110, 10);
    check.is("reason 8, both are within", x.order(2, 0, 105, 8, 0), 2);
  }

  /** Each is so, and the one behind it as well. */
  private static void orderOfReasons() {
    Orderbook x = new Orderbook();
    for (int i = 0; i < 60; i++) {
      x.order(0, 1, 500, 1, 0);
    }
    x.tick(5);
    x.band(500, 10);
    x.limit(1, 0);
    x.halt();
    check.refuses("1 ahead of 2", 1, x, () -> x.order(2, 0, 489, 1, 1));
    check.refuses("1 ahead of 3", 1, x, () -> x.order(2, 0, 485, 1, 1));
    x.resume();
    check.refuses("2 ahead of 3", 2, x, () -> x.order(2, 0, 489, 1, 1));
    check.refuses("2 ahead of 4", 2, x, () -> x.order(2, 0, 491, 1, 1));
    check.refuses("3 ahead of 4", 3, x, () -> x.order(2, 0, 485, 1, 1));
    check.refuses("4 ahead of 5", 4, x, () -> x.order(2, 0, 490, 1, 1));
    check.refuses("5 ahead of 8", 5, x, () -> x.order(2, 0, 490, 1, 2));
    check.refuses("5 ahead of 7", 5, x, () -> x.order(3, 0, 500, 1, 2));
    x.gather();
    check.refuses("4 ahead of 6", 4, x, () -> x.order(1, 0, 490, 1, 1));
    check.refuses("5 ahead of 6", 5, x, () -> x.order(1, 0, 490, 1, 2));
  }

  private static void orderOfLaterReasons() {
    Orderbook x = new Orderbook();
    x.order(0, 1, 500, 1, 0);
    x.limit(1, 0);
    check.refuses("4 ahead of 7", 4, x, () -> x.order(3, 0, 500, 1, 1));
    check.refuses("4 ahead of 8", 4, x, () -> x.order(2, 0, 499, 1, 1));
    x.gather();
    check.refuses("6 ahead of 7", 6, x, () -> x.order(3, 0, 500, 1, 2));
    check.refuses("6 ahead of 8", 6, x, () -> x.order(2, 0, 499, 1, 2));
    x.auction();
    check.refuses("7", 7, x, () -> x.order(3, 0, 500, 1, 2));
    check.refuses("8", 8, x, () -> x.order(2, 0, 499, 1, 2));
  }

  /** Sixty wait, tick 5, band 490 to 510, nothing is taken of owner 1. */
  private static Orderbook strict() {
    Orderbook x = new Orderbook();
    for (int i = 0; i < 60; i++) {
      x.order(0, 1, 500, 1, 0);
    }
    x.tick(5);
    x.band(500, 10);
    x.limit(1, 0);
    return x;
  }

  private static void orderOfReasonsOfHidden() {
    Orderbook x = strict();
    check.refuses("hidden, 2 ahead of 3", 2, x, () -> x.hidden(0, 489, 1, 1, 1));
    check.refuses("hidden, 2 ahead of 4", 2, x, () -> x.hidden(0, 491, 1, 1, 1));
    check.refuses("hidden, 3 ahead of 4", 3, x, () -> x.hidden(0, 485, 1, 1, 1));
    check.refuses("hidden, 4 ahead of 5", 4, x, () -> x.hidden(0, 490, 1, 1, 1));
    check.refuses("hidden, 5", 5, x, () -> x.hidden(0, 490, 1, 1, 2));
    x.halt();
    check.refuses("hidden, 1 ahead of 2", 1, x, () -> x.hidden(0, 489, 1, 1, 1));
    check.refuses("hidden, 1 ahead of 5", 1, x, () -> x.hidden(0, 490, 1, 1, 2));
  }

  private static void orderOfReasonsOfSleepers() {
    Orderbook x = strict();
    check.refuses("sleeper, 2 ahead of 3", 2, x, () -> x.sleeper(0, 501, 485, 1, 1));
    check.refuses("sleeper, 2 ahead of 4", 2, x, () -> x.sleeper(0, 501, 490, 1, 1));
    check.refuses("sleeper, 2 ahead of 5", 2, x, () -> x.sleeper(0, 501, 490, 1, 2));
    check.refuses("sleeper, 3 ahead of 4", 3, x, () -> x.sleeper(0, 500, 485, 1, 1));
    check.refuses("sleeper, 4 ahead of 5", 4, x, () -> x.sleeper(0, 500, 490, 1, 1));
    check.refuses("sleeper, 5", 5, x, () -> x.sleeper(0, 500, 490, 1, 2));
    x.halt();
    check.refuses("sleeper, 1 ahead of 2", 1, x, () -> x.sleeper(0, 501, 490, 1, 1));
  }

  private static void orderOfReasonsOfChange() {
    Orderbook x = strict();
    x.limit(0, 0);
    check.refuses("change, 2 ahead of 3", 2, x, () -> x.change(7, 489));
    check.refuses("change, 3", 3, x, () -> x.change(7, 485));
    check.is("change, neither 4 nor 5", x.change(7, 490), 1);
    x.halt();
    check.refuses("change, 1 ahead of 2", 1, x, () -> x.change(7, 489));
    check.refuses("change, 1 ahead of 3", 1, x, () -> x.change(7, 485));
  }
}
