import java.util.Arrays;

/** Promises 19 to 34: what is answered where there is nothing, the first, the last and one more. */
public final class AnswersTest {
  private static final Class<?> INDEX = IndexOutOfBoundsException.class;
  private static final Check check = new Check();

  public static void main(String[] args) {
    bestOfNobody();
    bestOfSome();
    levelOfNobody();
    levelsFromTheBest();
    levelOfOne();
    levelOfHidden();
    ofOrderOfEachState();
    ofOrderAhead();
    firstOfNobody();
    firstOfSome();
    queuedToTheLast();
    depthOfBuy();
    depthOfSell();
    betweenItsEnds();
    betweenTheWrongWay();
    textOfNone();
    textOfSome();
    sleepersOfBoth();
    tradesToTheLast();
    whoCame();
    tapeOfNone();
    tapeOfEight();
    minuteOfNone();
    minuteOfOne();
    minuteOfSome();
    accountOfNone();
    accountOfBothSides();
    houseAtFirst();
    houseCounts();
    houseOfTrades();
    nineIsCounted();
    refusedAtFirst();
    toldOfNone();
    toldOfAll();
    toldOfThrown();
    askingChangesNothing();
    booksShareNothing();
    check.end();
  }

  private static int both(int high, int low) {
    return high * 1000 + low;
  }

  private static void bestOfNobody() {
    Orderbook x = new Orderbook();
    check.is("19 nobody", both(x.best(0), x.best(1)), -1001);
    x.sleeper(0, 900, 100, 1, 0);
    x.sleeper(1, 10, 100, 1, 0);
    check.is("19 who sleeps waits not", both(x.best(0), x.best(1)), -1001);
    x.order(0, 0, 1, 1, 0);
    check.is("19 of the other side", both(x.best(0), x.best(1)), 999);
    x.cancel(2);
    check.is("19 nobody again", both(x.best(0), x.best(1)), -1001);
  }

  private static void bestOfSome() {
    Orderbook x = new Orderbook();
    int[] prices = {100, 99, 101};
    int[] bids = {100, 100, 101};
    int[] asks = {200, 199, 199};
    for (int i = 0; i < 3; i++) {
      x.order(0, 0, prices[i], 1, 0);
      x.order(0, 1, prices[i] + 100, 1, 0);
      check.is("19 the greatest bid", x.best(0), bids[i]);
      check.is("19 the smallest ask", x.best(1), asks[i]);
    }
  }

  private static void levelOfNobody() {
    Orderbook x = new Orderbook();
    x.sleeper(0, 900, 100, 1, 0);
    for (int what = 0; what <= 5; what++) {
      check.is("20 nobody, " + what, x.level(0, 0, what), -1);
      check.is("20 nobody far, " + what, x.level(1, Integer.MAX_VALUE, what), -1);
    }
  }

  private static void levelsFromTheBest() {
    Orderbook x = new Orderbook();
    for (int price : new int[] {100, 102, 101}) {
      x.order(0, 0, price, 1, 0);
      x.order(0, 1, price + 100, 1, 0);
    }
    for (int nth = 0; nth < 3; nth++) {
      check.is("20 of buy, " + nth, x.level(0, nth, 0), 102 - nth);
      check.is("20 of sell, " + nth, x.level(1, nth, 0), 200 + nth);
    }
    for (int what = 0; what <= 5; what++) {
      check.is("20 one more of buy, " + what, x.level(0, 3, what), -1);
      check.is("20 one more of sell, " + what, x.level(1, 3, what), -1);
    }
  }

  private static void levelOfOne() {
    Orderbook x = new Orderbook();
    x.order(0, 1, 100, 7, 0);
    int[] due = {100, 7, 7, 1, 0, 0};
    for (int what = 0; what <= 5; what++) {
      check.is("20 of one, " + what, x.level(1, 0, what), due[what]);
      check.is("20 one more, " + what, x.level(1, 1, what), -1);
    }
  }

  private static void levelOfHidden() {
    Orderbook x = new Orderbook();
    x.order(0, 1, 101, 7, 0);
    x.hidden(1, 100, 9, 2, 0);
    x.order(0, 1, 100, 4, 0);
    x.hidden(1, 100, 3, 3, 0);
    int[] due = {100, 9, 16, 3, 1, 3};
    for (int what = 0; what <= 5; what++) {
      check.is("20 of three, " + what, x.level(1, 0, what), due[what]);
    }
    x.order(0, 0, 100, 2, 1);
    int[] then = {100, 9, 14, 3, 2, 1};
    for (int what = 0; what <= 5; what++) {
      check.is("20 of three in turn, " + what, x.level(1, 0, what), then[what]);
    }
  }

  private static void ofOrderOfEachState() {
    Orderbook x = new Orderbook();
    x.hidden(1, 100, 9, 2, 4);
    x.order(1, 0, 100, 1, 5);
    x.sleeper(1, 3, 4, 8, 0);
    x.order(3, 0, 98, 7, 1);
    x.cancel(3);
    int[][] due = {{1, 100, 9, 4, 4, 8, 1, 0, 1, 0, 0}, {0, 100, 1, 5, 1, 0, 0, 2, 1, 0, -1},
        {1, 4, 8, 0, 5, 8, 0, 1, 0, 3, -1}, {0, 98, 7, 1, 3, 0, 0, 3, 0, 0, -1}};
    for (int order = 0; order < due.length; order++) {
      for (int what = 0; what <= 10; what++) {
        check.is("21 order " + order + ", " + what, x.ofOrder(order, what), due[order][what]);
      }
    }
    x.cancel(2);
    check.is("21 the trigger stays", x.ofOrder(2, 9), 3);
    check.is("21 it shows none, is in no queue", both(x.ofOrder(2, 6), x.ofOrder(2, 10)), -1);
  }

  private static void ofOrderAhead() {
    Orderbook x = new Orderbook();
    x.order(0, 0, 101, 1, 0);
    for (int i = 0; i < 3; i++) {
      x.order(0, 0, 100, 1, 0);
    }
    for (int i = 0; i < 3; i++) {
      check.is("21 ahead in its own queue", x.ofOrder(1 + i, 10), i);
    }
    x.cancel(1);
    check.is("21 one fewer", both(x.ofOrder(2, 10), x.ofOrder(3, 10)), 1);
  }

  private static void firstOfNobody() {
    Orderbook x = new Orderbook();
    x.order(0, 0, 100, 1, 0);
    x.sleeper(0, 900, 101, 1, 0);
    check.is("22 one above", x.first(0, 101), -9);
    check.is("22 one below", x.first(0, 99), -9);
    check.is("22 of the other side", x.first(1, 100), -9);
    check.is("22 counted each time", x.house(14), 3);
    x.cancel(0);
    check.is("22 nobody waits there now", both(x.first(0, 100), x.house(14)), -9000 + 4);
  }

  private static void firstOfSome() {
    Orderbook x = new Orderbook();
    x.order(0, 0, 100, 1, 0);
    x.order(0, 0, 100, 1, 1);
    check.is("22 the first one", x.first(0, 100), 0);
    x.cancel(0);
    check.is("22 the next one", x.first(0, 100), 1);
    check.is("22 nothing is counted", x.house(14), 0);
  }

  private static void queuedToTheLast() {
    Orderbook x = new Orderbook();
    check.is("23 of nobody", x.queued(0, 100, 0), -1);
    for (int i = 0; i < 3; i++) {
      x.order(0, 1, 100, 1, 0);
    }
    check.is("23 the first and the last", both(x.queued(1, 100, 0), x.queued(1, 100, 2)), 2);
    check.is("23 one more", x.queued(1, 100, 3), -1);
    check.is("23 far", x.queued(1, 100, Integer.MAX_VALUE), -1);
    check.is("23 another price", both(x.queued(1, 99, 0), x.queued(1, 101, 0)), -1001);
    check.is("23 not counted", x.house(14), 0);
  }

  private static void depthOfBuy() {
    Orderbook x = new Orderbook();
    check.is("24 nobody", x.depth(0, 1), 0);
    x.hidden(0, 100, 9, 2, 0);
    x.order(0, 0, 99, 5, 0);
    x.sleeper(0, 900, 100, 50, 0);
    check.is("24 above the best", x.depth(0, 101), 0);
    check.is("24 the best, LEFT of all", x.depth(0, 100), 9);
    check.is("24 the next", x.depth(0, 99), 14);
    check.is("24 no more", both(x.depth(0, 98), x.depth(0, 1)), both(14, 14));
    check.is("24 the greatest", x.depth(0, 999), 0);
    check.is("24 of the other side", x.depth(1, 999), 0);
  }

  private static void depthOfSell() {
    Orderbook x = new Orderbook();
    x.order(0, 1, 100, 9, 0);
    x.order(0, 1, 101, 5, 0);
    check.is("24 below the best", x.depth(1, 99), 0);
    check.is("24 the best", x.depth(1, 100), 9);
    check.is("24 the next", x.depth(1, 101), 14);
    check.is("24 no more", both(x.depth(1, 102), x.depth(1, 999)), both(14, 14));
    check.is("24 the smallest", x.depth(1, 1), 0);
  }

  private static void betweenItsEnds() {
    Orderbook x = new Orderbook();
    x.order(0, 0, 100, 1, 0);
    x.hidden(0, 102, 20, 2, 0);
    x.order(0, 0, 104, 300, 0);
    x.sleeper(0, 900, 102, 50, 0);
    check.is("25 all", x.between(0, 1, 999), 321);
    check.is("25 from an end to an end", x.between(0, 100, 104), 321);
    check.is("25 one in", x.between(0, 101, 103), 20);
    check.is("25 one out on one side", both(x.between(0, 101, 104), x.between(0, 100, 103)), both(320, 21));
    check.is("25 one price", x.between(0, 102, 102), 20);
    check.is("25 none there", both(x.between(0, 103, 103), x.between(0, 105, 999)), 0);
    check.is("25 none there", both(x.between(0, 1, 99), x.between(1, 1, 999)), 0);
    check.is("25 nothing is counted", x.house(14), 0);
  }

  private static void betweenTheWrongWay() {
    Orderbook x = new Orderbook();
    x.order(0, 1, 100, 1, 0);
    check.is("25 one above", x.between(1, 101, 100), -9);
    check.is("25 from the greatest to the smallest", x.between(1, 999, 1), -9);
    check.is("25 counted each time", x.house(14), 2);
    check.is("25 not told", x.house(13), 1);
  }

  private static void textOfNone() {
    Orderbook x = new Orderbook();
    x.sleeper(0, 900, 102, 50, 0);
    check.is("26 nobody", x.text(0) + x.text(1), "--");
    x.order(0, 0, 9, 1, 0);
    check.is("26 one", x.text(0) + x.text(1), "9x1-");
    x.cancel(1);
    check.is("26 nobody again", x.text(0) + x.text(1), "--");
  }

  private static void textOfSome() {
    Orderbook x = new Orderbook();
    x.order(0, 1, 999, 500, 0);
    x.hidden(1, 99, 10, 9, 0);
    x.order(0, 1, 99, 1, 0);
    x.order(0, 1, 100, 100, 0);
    x.order(0, 0, 1, 1, 0);
    x.order(0, 0, 10, 12, 0);
    check.is("26 from the smallest on", x.text(1), "99x10 100x100 999x500");
    check.is("26 from the greatest on", x.text(0), "10x12 1x1");
  }

  private static void sleepersOfBoth() {
    Orderbook x = new Orderbook();
    check.is("27 none", both(x.sleepers(0), x.sleepers(1)), 0);
    x.sleeper(0, 300, 100, 1, 0);
    x.sleeper(0, 301, 100, 1, 0);
    x.sleeper(1, 299, 400, 1, 0);
    check.is("27 of each side", both(x.sleepers(0), x.sleepers(1)), both(2, 1));
    x.order(0, 0, 300, 1, 1);
    x.order(0, 1, 300, 1, 2);
    check.is("27 one is awake", both(x.sleepers(0), x.sleepers(1)), both(1, 1));
    x.cancel(2);
    check.is("27 one has ended", both(x.sleepers(0), x.sleepers(1)), both(1, 0));
  }

  private static Orderbook traded(int times) {
    Orderbook x = new Orderbook();
    for (int i = 0; i < times; i++) {
      x.order(0, 1, 100 + i, 1 + i, 0);
      x.order(0, 0, 100 + i, 1 + i, 1);
    }
    return x;
  }

  private static void tradesToTheLast() {
    Orderbook x = traded(3);
    for (int nth = 0; nth < 3; nth++) {
      check.is("28 price and pieces", both(x.trade(nth, 0), x.trade(nth, 1)), both(100 + nth, 1 + nth));
      check.is("28 buyer and seller", both(x.trade(nth, 2), x.trade(nth, 3)), both(2 * nth + 1, 2 * nth));
    }
    check.failsUnchanged("28 one more", INDEX, x, () -> x.trade(3, 0));
    check.failsUnchanged("28 none", INDEX, traded(0), () -> traded(0).trade(0, 0));
  }

  private static void whoCame() {
    Orderbook x = traded(1);
    check.is("28 buy came", x.trade(0, 5), 0);
    x.order(0, 0, 50, 500, 2);
    x.pass(99);
    x.order(0, 1, 50, 500, 3);
    check.is("28 sell came", x.trade(1, 5), 1);
    check.is("28 its minute", both(x.trade(0, 4), x.trade(1, 4)), 99);
    check.is("28 500 pieces", x.trade(1, 1), 500);
    x.gather();
    x.order(0, 0, 999, 5, 2);
    x.order(0, 1, 999, 5, 3);
    x.auction();
    check.is("28 in an auction", both(x.trade(2, 5), x.trade(2, 0)), both(2, 999));
  }

  private static void tapeOfNone() {
    Orderbook x = new Orderbook();
    check.is("29 no trade", x.tape(0), "-");
    check.is("29 none far on", x.tape(Integer.MAX_VALUE), "-");
    Orderbook y = traded(1);
    check.is("29 one", y.tape(0), "1x100");
    check.is("29 behind the last", y.tape(1), "-");
  }

  private static void tapeOfEight() {
    Orderbook x = traded(9);
    check.is("29 eight at most", x.tape(0),
        "1x100 2x101 3x102 4x103 5x104 6x105 7x106 8x107");
    check.is("29 eight to the last", x.tape(1),
        "2x101 3x102 4x103 5x104 6x105 7x106 8x107 9x108");
    check.is("29 seven", x.tape(2), "3x102 4x103 5x104 6x105 7x106 8x107 9x108");
    check.is("29 the last", x.tape(8), "9x108");
    check.is("29 behind it", x.tape(9), "-");
  }

  private static void minuteOfNone() {
    Orderbook x = traded(0);
    for (int minute : new int[] {0, 1, 9999}) {
      for (int what = 0; what <= 6; what++) {
        check.is("30 no trade, " + what, x.minute(minute, what), what <= 2 ? 0 : -1);
      }
    }
  }

  private static void minuteOfOne() {
    Orderbook x = new Orderbook();
    x.pass(5);
    x.order(0, 1, 100, 7, 0);
    x.order(0, 0, 100, 7, 1);
    x.pass(1);
    int[] due = {1, 7, 700, 100, 100, 100, 100};
    for (int what = 0; what <= 6; what++) {
      check.is("30 of one, " + what, x.minute(5, what), due[what]);
      check.is("30 ahead of it, " + what, x.minute(4, what), what <= 2 ? 0 : -1);
      check.is("30 behind it, " + what, x.minute(6, what), what <= 2 ? 0 : -1);
    }
  }

  private static void minuteOfSome() {
    Orderbook x = new Orderbook();
    int[] prices = {102, 104, 101, 103};
    for (int minute = 0; minute < 3; minute++) {
      for (int price : prices) {
        x.order(0, 1, price + minute, 2, 0);
        x.order(0, 0, price + minute, 2, 1);
      }
      x.pass(1);
    }
    for (int minute = 0; minute < 3; minute++) {
      int[] due = {4, 8, 820 + 8 * minute, 102 + minute, 103 + minute, 104 + minute, 101 + minute};
      for (int what = 0; what <= 6; what++) {
        check.is("30 minute " + minute + ", " + what, x.minute(minute, what), due[what]);
      }
    }
    check.is("30 none yet", x.minute(3, 0), 0);
  }

  private static void accountOfNone() {
    Orderbook x = new Orderbook();
    int[] due = {0, 0, 5000, 0, 0, 0, 0};
    for (int owner = 0; owner < 6; owner++) {
      for (int what = 0; what <= 6; what++) {
        check.is("31 at first, " + what, x.account(owner, what), due[what]);
      }
    }
  }

  private static void accountOfBothSides() {
    Orderbook x = traded(1);
    x.order(0, 0, 50, 4, 0);
    x.sleeper(0, 900, 50, 5, 0);
    x.hidden(1, 200, 60, 1, 0);
    x.sleeper(1, 10, 200, 70, 0);
    x.order(0, 0, 51, 8, 1);
    int[] due = {-1, 100, 5000, 9, 130, 4, 0};
    int[] other = {1, -100, 5000, 8, 0, 1, 0};
    for (int what = 0; what <= 6; what++) {
      check.is("31 of the seller, " + what, x.account(0, what), due[what]);
      check.is("31 of the buyer, " + what, x.account(1, what), other[what]);
    }
    x.cancel(2);
    check.is("31 what has ended is not left", both(x.account(0, 3), x.account(0, 5)), both(5, 3));
    x.cancel(5);
    check.is("31 who slept neither", both(x.account(0, 4), x.account(0, 5)), both(60, 2));
  }

  private static void houseAtFirst() {
    Orderbook x = new Orderbook();
    int[] due = {0, 0, 1, 500, 999, 0, 0, 0, 0, 0, 0, 0, -1, 0, 0, 0, 0};
    for (int what = 0; what <= 16; what++) {
      check.is("32 at first, " + what, x.house(what), due[what]);
    }
  }

  private static void houseCounts() {
    Orderbook x = new Orderbook();
    x.order(0, 1, 100, 5, 0);
    x.order(0, 0, 100, 4, 1);
    x.sleeper(0, 900, 100, 5, 1);
    x.order(1, 0, 50, 5, 1);
    x.order(2, 0, 50, 5, 1);
    int[] due = {4, 1, 1, 1, 1, 1, 4, 100, 5};
    for (int what = 5; what <= 13; what++) {
      check.is("32 " + what, x.house(what), due[what - 5]);
    }
  }

  private static void houseOfTrades() {
    Orderbook x = traded(2);
    check.is("32 trades and pieces", both(x.house(10), x.house(11)), both(2, 3));
    check.is("32 the last price", x.house(12), 101);
    x.order(0, 0, 50, 1, 0);
    x.order(0, 1, 50, 1, 1);
    check.is("32 the last price again", x.house(12), 50);
    x.gather();
    x.order(0, 0, 60, 1, 0);
    x.order(0, 1, 60, 1, 1);
    x.auction();
    check.is("32 the last price of an auction", x.house(12), 60);
    x.band(70, 999);
    check.is("32 not the reference", both(x.house(3), x.house(12)), both(70, 60));
  }

  private static void nineIsCounted() {
    Orderbook x = new Orderbook();
    x.order(0, 0, 100, 9, 0);
    x.order(0, 1, 100, 9, 1);
    check.is("31 a position of -9", x.account(1, 0), -9);
    check.is("32 is no PRICE that is not there", x.house(14), 0);
    x.blank();
    x.first(0, 1);
    x.between(0, 2, 1);
    check.is("32 all three", x.house(14), 3);
    check.fails("22 thrown", IllegalArgumentException.class, () -> x.first(0, 0));
    check.fails("25 thrown", IllegalArgumentException.class, () -> x.between(0, 2, 0));
    check.is("32 what throws tells nothing", x.house(14), 3);
  }

  private static void refusedAtFirst() {
    Orderbook x = new Orderbook();
    for (int reason = 1; reason <= 8; reason++) {
      check.is("33 at first, " + reason, x.refused(reason), 0);
    }
    x.order(2, 0, 100, 1, 0);
    x.order(2, 0, 100, 1, 0);
    for (int reason = 1; reason <= 8; reason++) {
      check.is("33 twice the last one, " + reason, x.refused(reason), reason == 8 ? 2 : 0);
    }
  }

  private static void toldOfNone() {
    Orderbook x = new Orderbook();
    x.knock();
    x.blank();
    x.best(0);
    x.isSound();
    x.would(0, 100, 1, 0, false);
    check.failsUnchanged("34 none", INDEX, x, () -> x.told(0, false));
    check.failsUnchanged("34 none told back", INDEX, x, () -> x.told(0, true));
    check.failsUnchanged("34 below", INDEX, x, () -> x.told(-1, true));
    x.pass(4);
    check.is("34 the first one", both(x.told(0, false), x.told(0, true)), both(7, 4));
    check.failsUnchanged("34 one more", INDEX, x, () -> x.told(1, true));
  }

  private static void toldOfAll() {
    Orderbook x = new Orderbook();
    x.order(0, 0, 10, 5, 0);
    x.hidden(0, 11, 5, 2, 1);
    x.sleeper(0, 500, 11, 6, 1);
    x.cancel(2);
    x.cancelAll(0);
    x.less(1, 2);
    x.change(1, 12);
    x.pass(9);
    x.tick(2);
    x.band(400, 999);
    x.limit(1, 77);
    x.gather();
    x.auction();
    x.halt();
    x.resume();
    int[] due = {0, 1, 2, 6, 1, 3, 3, 9, 1, 500, 5000, 0, -1, 1, 1};
    for (int nth = 0; nth <= 14; nth++) {
      check.is("34 its number", x.told(nth, false), nth);
      check.is("34 what it told back", x.told(nth, true), due[nth]);
    }
    check.is("32 so many", x.house(13), 15);
  }

  private static void toldOfThrown() {
    Orderbook x = new Orderbook();
    check.fails("s5 thrown", IllegalArgumentException.class, () -> x.order(0, 0, 0, 1, 0));
    check.fails("s5 thrown", INDEX, () -> x.cancel(0));
    check.fails("s5 thrown", IllegalStateException.class, () -> x.resume());
    check.is("s5 not told", x.house(13), 0);
    x.halt();
    check.is("s5 a reason is told", x.order(0, 0, 10, 5, 0), -1);
    check.is("34 told back", both(x.house(13), x.told(1, true)), both(2, -1));
  }

  /** Each method that only asks, with arguments that are right, in each phase. */
  private static void askingChangesNothing() {
    int[][] asked = {{17, 0}, {18, 0, 0, 1}, {19, 2, 6}, {20, 0, 100}, {21, 0, 100, 0}, {22, 0, 100},
        {23, 0, 1, 999}, {24, 1}, {25, 0}, {26, 0, 1}, {27, 0}, {28, 0, 2}, {29, 0, 1}, {30, 13}, {31, 8},
        {32, 0, 1}, {33, 0, 999, 9, 3, 1}, {34, 1}, {35, 2, 10}, {36}, {37}};
    for (int phase = 0; phase <= 2; phase++) {
      Orderbook x = traded(1);
      x.hidden(0, 100, 9, 2, 0);
      x.order(0, 1, 200, 9, 0);
      x.sleeper(0, 900, 100, 9, 0);
      x.order(2, 0, 100, 9, 0);
      if (phase > 0) {
        Face.call(x, phase == 1 ? 11 : 13);
      }
      for (int[] row : asked) {
        String before = Snapshot.of(x);
        Object got = Face.call(x, row[0], Arrays.copyOfRange(row, 1, row.length));
        check.is("asked, call " + row[0] + " " + got, got instanceof Class, false);
        check.is("s4 asked, changed, call " + row[0], Snapshot.of(x), before);
      }
    }
  }

  private static void booksShareNothing() {
    Orderbook x = new Orderbook();
    String empty = Snapshot.of(x);
    Orderbook y = traded(2);
    y.halt();
    y.limit(0, 1);
    y.knock();
    y.blank();
    check.is("1 another book", Snapshot.of(x), empty);
    check.is("1 a new book", Snapshot.of(new Orderbook()), empty);
  }
}
