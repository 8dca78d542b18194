/** Section 3: sleepers on both sides of their triggers, and auctions on both sides of their price. */
public final class WakingTest {
  private static final Class<?> STATE = IllegalStateException.class;
  private static final Check check = new Check();

  public static void main(String[] args) {
    triggersOfBuy();
    triggersOfSell();
    earlierTradesDoNotWake();
    eachTradeWakes();
    eachKindWakes();
    smallestNumberFirst();
    wokenBySleepers();
    comesAsPlain();
    comesWithoutReasons();
    comesToItsOwn();
    bandOfSleepers();
    endsInHalted();
    sleepsOnInHalted();
    sleepsInEachPhase();
    noTradesInGathering();
    noPriceOfNothing();
    noPriceOfOneSide();
    noPriceApart();
    priceAtOnePrice();
    mostThatTrades();
    leastLeftOver();
    smallestPrice();
    onlyPricesOfOrders();
    hiddenCountsWhole();
    hiddenSellsWhole();
    sleepersDoNotCount();
    noBandInAnAuction();
    tradesUpToThePrice();
    bidsBelowThePrice();
    asksAboveThePrice();
    tradesWithItself();
    partsInAnAuction();
    referenceAndPhase();
    auctionWakesAtItsPrice();
    newReferenceForThoseAwake();
    auctionWithoutPrice();
    check.end();
  }

  private static int both(int high, int low) {
    return high * 1000 + low;
  }

  /** A trade at 100, behind one that sleeps with that trigger far from it. */
  private static Orderbook tradedAtHundred(int side, int trigger) {
    Orderbook x = new Orderbook();
    x.sleeper(side, trigger, side == 0 ? 50 : 200, 5, 0);
    x.order(0, 1, 100, 1, 1);
    x.order(0, 0, 100, 1, 2);
    return x;
  }

  private static void triggersOfBuy() {
    check.is("s3 buy, below the price: awake", tradedAtHundred(0, 99).text(0), "50x5");
    check.is("s3 buy, at the price: awake", tradedAtHundred(0, 100).text(0), "50x5");
    Orderbook x = tradedAtHundred(0, 101);
    check.is("s3 buy, above the price: sleeps", x.text(0) + x.sleepers(0), "-1");
    check.is("21 sleeps", both(x.ofOrder(0, 7), x.ofOrder(0, 6)), both(1, 0));
    check.is("s3 the least trigger", tradedAtHundred(0, 1).sleepers(0), 0);
    check.is("s3 the greatest trigger", tradedAtHundred(0, 999).sleepers(0), 1);
  }

  private static void triggersOfSell() {
    check.is("s3 sell, above the price: awake", tradedAtHundred(1, 101).text(1), "200x5");
    check.is("s3 sell, at the price: awake", tradedAtHundred(1, 100).text(1), "200x5");
    Orderbook x = tradedAtHundred(1, 99);
    check.is("s3 sell, below the price: sleeps", x.text(1) + x.sleepers(1), "-1");
    check.is("s3 the least trigger", tradedAtHundred(1, 1).sleepers(1), 1);
    check.is("s3 the greatest trigger", tradedAtHundred(1, 999).sleepers(1), 0);
  }

  private static void earlierTradesDoNotWake() {
    Orderbook x = tradedAtHundred(0, 999);
    check.is("s3 told behind the trade", x.sleeper(0, 100, 60, 4, 3), 3);
    check.is("s3 it sleeps", both(x.sleepers(0), x.house(7)), both(2, 2));
    x.order(0, 0, 70, 1, 1);
    check.is("s3 nothing trades, it sleeps", x.ofOrder(3, 7), 1);
    x.order(0, 1, 70, 1, 2);
    check.is("s3 a trade below wakes it not", x.ofOrder(3, 7), 1);
    x.order(0, 1, 100, 1, 2);
    x.order(0, 0, 100, 1, 1);
    check.is("s3 a trade at it does", x.ofOrder(3, 7), 0);
  }

  private static void eachTradeWakes() {
    Orderbook x = new Orderbook();
    x.sleeper(0, 101, 10, 1, 0);
    x.sleeper(1, 100, 900, 1, 0);
    x.order(0, 1, 100, 1, 1);
    x.order(0, 1, 101, 1, 1);
    x.order(0, 0, 101, 2, 2);
    check.is("s3 the last price wakes", x.text(0), "10x1");
    check.is("s3 the first price woke", x.text(1), "900x1");
  }

  private static void eachKindWakes() {
    for (int kind = 0; kind <= 2; kind++) {
      Orderbook x = new Orderbook();
      x.sleeper(0, 100, 50, 1, 0);
      x.order(0, 1, 100, 2, 1);
      x.order(kind, 0, 100, 2, 2);
      check.is("s3 a trade of kind " + kind + " wakes", both(x.sleepers(0), x.best(0)), 50);
    }
    Orderbook y = new Orderbook();
    y.sleeper(1, 100, 200, 1, 0);
    y.order(3, 0, 100, 2, 1);
    y.hidden(1, 100, 2, 1, 2);
    check.is("s3 a trade of a hidden one wakes", both(y.sleepers(1), y.best(1)), 200);
    Orderbook z = new Orderbook();
    z.sleeper(1, 100, 200, 1, 0);
    z.order(3, 0, 90, 2, 1);
    z.order(3, 1, 100, 2, 2);
    z.change(1, 100);
    check.is("s3 a trade of a change wakes", both(z.sleepers(1), z.best(1)), 200);
  }

  private static void smallestNumberFirst() {
    Orderbook x = new Orderbook();
    x.sleeper(0, 100, 200, 1, 0);
    x.sleeper(0, 1, 200, 1, 1);
    x.sleeper(1, 999, 200, 1, 2);
    x.order(0, 1, 100, 1, 3);
    x.order(0, 1, 150, 1, 4);
    x.order(0, 0, 100, 1, 5);
    check.is("s3 the smallest number comes first", both(x.trade(1, 2), x.trade(2, 2)), both(0, 1));
    check.is("s3 then those behind it", both(x.trade(2, 3), x.trade(2, 5)), both(2, 1));
    check.is("s3 none sleeps", x.house(7), 0);
  }

  private static void wokenBySleepers() {
    Orderbook x = new Orderbook();
    x.sleeper(0, 120, 10, 1, 0);
    x.sleeper(0, 100, 120, 1, 1);
    x.order(0, 1, 100, 1, 3);
    x.order(0, 1, 119, 1, 3);
    x.order(0, 0, 100, 1, 4);
    check.is("s3 119 wakes not", both(x.ofOrder(0, 7), x.house(10)), both(1, 2));
    Orderbook y = new Orderbook();
    y.sleeper(0, 120, 10, 1, 0);
    y.sleeper(0, 100, 120, 1, 1);
    y.order(0, 1, 100, 1, 3);
    y.order(0, 1, 120, 1, 3);
    y.order(0, 0, 100, 1, 4);
    check.is("s3 120 wakes", both(y.ofOrder(0, 7), y.house(10)), both(0, 2));
  }

  private static void comesAsPlain() {
    Orderbook x = new Orderbook();
    x.sleeper(0, 100, 130, 9, 0);
    x.order(0, 1, 100, 1, 1);
    x.order(0, 1, 130, 2, 1);
    x.order(0, 1, 131, 2, 1);
    x.order(0, 0, 100, 1, 2);
    check.is("s3 it trades what it reaches", x.tape(1), "2x130");
    check.is("s3 what is left waits", x.text(0) + " " + x.text(1), "130x7 131x2");
    check.is("s3 its kind stays", both(x.ofOrder(0, 4), x.ofOrder(0, 9)), both(5, 100));
    check.is("s3 all of it is shown", x.ofOrder(0, 6), 7);
  }

  private static void comesWithoutReasons() {
    Orderbook x = new Orderbook();
    x.sleeper(0, 101, 301, 5, 0);
    x.order(0, 1, 101, 1, 1);
    x.limit(0, 0);
    x.tick(2);
    x.band(100, 5);
    x.order(0, 0, 102, 1, 2);
    check.is("s3 off the tick, off the band, above the limit", x.text(0), "301x5");
    check.is("s3 none was refused", both(x.refused(2), x.refused(3) + x.refused(4)), 0);
  }

  private static void comesToItsOwn() {
    Orderbook x = new Orderbook();
    x.order(0, 1, 110, 4, 0);
    x.sleeper(0, 100, 110, 2, 0);
    x.order(0, 1, 100, 1, 1);
    x.order(0, 0, 100, 1, 2);
    check.is("s3 step 3 for it too", both(x.ofOrder(0, 7), x.account(0, 6)), both(3, 1));
    check.is("s3 it waits", x.text(0) + x.text(1), "110x2-");
  }

  /** Its price was told within the band; it comes when the band is another one. */
  private static void bandOfSleepers() {
    for (int band = 19; band <= 20; band++) {
      Orderbook x = new Orderbook();
      x.sleeper(0, 100, 200, 1, 0);
      x.order(0, 1, 100, 1, 1);
      x.order(0, 1, 120, 1, 1);
      x.band(100, band);
      x.order(0, 0, 100, 1, 2);
      check.is("s3 step 2 above, band " + band, both(x.house(1), x.house(10)), band == 20 ? 2 : both(2, 1));
      Orderbook y = new Orderbook();
      y.sleeper(1, 100, 50, 1, 0);
      y.order(0, 0, 100, 1, 1);
      y.order(0, 0, 80, 1, 1);
      y.band(100, band);
      y.order(0, 1, 100, 1, 2);
      check.is("s3 step 2 below, band " + band, both(y.house(1), y.house(10)), band == 20 ? 2 : both(2, 1));
    }
  }

  private static void endsInHalted() {
    Orderbook x = new Orderbook();
    x.sleeper(0, 100, 200, 7, 0);
    x.sleeper(0, 100, 30, 8, 1);
    x.sleeper(0, 101, 30, 9, 1);
    x.order(0, 1, 100, 1, 2);
    x.order(0, 1, 120, 1, 2);
    x.band(100, 10);
    x.order(0, 0, 100, 1, 3);
    check.is("s3 the first one halts", both(x.house(1), x.house(16)), both(2, 1));
    check.is("s3 the next one has ended", both(x.ofOrder(1, 7), x.ofOrder(1, 5)), both(3, 0));
    check.is("s3 it counts as no meeting of one owner", x.account(1, 6), 0);
    check.is("s3 who is not awake sleeps on", both(x.ofOrder(2, 7), x.ofOrder(2, 5)), both(1, 9));
    check.is("s3 what is told back is the number", x.told(6, true), 5);
  }

  private static void sleepsOnInHalted() {
    Orderbook x = tradedAtHundred(0, 101);
    x.halt();
    check.is("s3 sleeps while halted", x.sleepers(0), 1);
    x.resume();
    x.order(0, 1, 101, 1, 1);
    x.order(0, 0, 101, 1, 2);
    check.is("s3 and is woken then", x.text(0), "50x5");
  }

  private static void sleepsInEachPhase() {
    Orderbook x = new Orderbook();
    x.order(0, 1, 100, 1, 1);
    check.is("s2 open: it sleeps", x.sleeper(0, 1, 999, 1, 0), 1);
    x.gather();
    check.is("s2 gathering: it sleeps", x.sleeper(0, 1, 999, 1, 0), 2);
    check.is("27 both", both(x.sleepers(0), x.house(6)), both(2, 1));
    check.is("s2 no trade", x.house(10), 0);
  }

  private static void noTradesInGathering() {
    Orderbook x = new Orderbook();
    x.sleeper(0, 1, 999, 1, 5);
    x.gather();
    x.order(0, 0, 110, 3, 0);
    x.order(0, 1, 100, 4, 0);
    x.hidden(1, 90, 5, 2, 1);
    check.is("s3 they wait without trades", x.text(0) + " " + x.text(1), "110x3 90x2 100x4");
    check.is("8 change as well", both(x.change(1, 120), x.house(10)), both(3, 0));
    check.is("s3 crossed", both(x.best(0), x.best(1)), both(120, 90));
    check.is("s3 none is awake", x.sleepers(0), 1);
    check.is("s3 no meeting of one owner", x.account(0, 6), 0);
    check.is("38 sound while gathering", x.isSound(), true);
  }

  private static void noPriceOfNothing() {
    Orderbook x = new Orderbook();
    x.gather();
    check.is("14 of nothing", x.auction(), -1);
    check.is("14 open then", both(x.house(1), x.house(3)), 500);
  }

  private static void noPriceOfOneSide() {
    for (int side = 0; side <= 1; side++) {
      Orderbook x = new Orderbook();
      x.gather();
      x.order(0, side, 100, 5, 0);
      check.is("36 of one side", both(x.wouldAuction(1), x.wouldAuction(2)), 0);
      check.is("14 of one side", x.auction(), -1);
      check.is("14 it waits on", x.text(side), "100x5");
    }
  }

  private static void noPriceApart() {
    Orderbook x = new Orderbook();
    x.gather();
    x.order(0, 0, 99, 5, 0);
    x.order(0, 1, 100, 5, 1);
    check.is("36 one apart: none", x.wouldAuction(0), -1);
    check.is("36 nothing is left over", both(x.wouldAuction(1), x.wouldAuction(2)), 0);
    check.is("14 one apart: none", x.auction(), -1);
    check.is("14 they wait on", x.text(0) + " " + x.text(1), "99x5 100x5");
  }

  private static void priceAtOnePrice() {
    Orderbook x = new Orderbook();
    x.gather();
    x.order(0, 0, 100, 5, 0);
    x.order(0, 1, 100, 5, 1);
    check.is("36 the same price", x.wouldAuction(0), 100);
    check.is("36 all of it", both(x.wouldAuction(1), x.wouldAuction(2)), both(5, 0));
    check.is("14 the same price", x.auction(), 100);
    check.is("14 nobody waits", x.house(6), 0);
  }

  /** At 100 trade 4, at 110 trade 5 or 4: the most that trades, though more is left over. */
  private static void mostThatTrades() {
    Orderbook x = new Orderbook();
    x.gather();
    x.order(0, 0, 110, 20, 0);
    x.order(0, 1, 100, 4, 1);
    check.is("14 the smallest that all trade at", x.wouldAuction(0), 100);
    x.order(0, 1, 110, 1, 2);
    check.is("14 one more trades at 110", x.wouldAuction(0), 110);
    check.is("36 the pieces", both(x.wouldAuction(1), x.wouldAuction(2)), both(5, 15));
  }

  private static void leastLeftOver() {
    Orderbook x = new Orderbook();
    x.gather();
    x.order(0, 0, 110, 4, 0);
    x.order(0, 1, 100, 4, 1);
    x.order(0, 0, 105, 1, 2);
    check.is("14 5 to 4 at 100 and 105, 4 to 4 at 110", x.wouldAuction(0), 110);
    check.is("36 left over", x.wouldAuction(2), 0);
    x.order(0, 1, 110, 1, 3);
    check.is("14 as many left over at 105 and at 110: by both the smallest", x.wouldAuction(0), 100);
    check.is("36 left over, one", both(x.wouldAuction(1), x.wouldAuction(2)), both(4, 1));
    x.order(0, 1, 105, 1, 3);
    check.is("14 more trades at 105", both(x.wouldAuction(0), x.wouldAuction(1)), both(105, 5));
  }

  private static void smallestPrice() {
    Orderbook x = new Orderbook();
    x.gather();
    x.order(0, 0, 110, 4, 0);
    x.order(0, 1, 100, 4, 1);
    check.is("14 of both the smallest", x.auction(), 100);
    check.is("28 they trade at it", x.trade(0, 0), 100);
  }

  private static void onlyPricesOfOrders() {
    Orderbook x = new Orderbook();
    x.gather();
    x.order(0, 0, 110, 4, 0);
    x.order(0, 1, 101, 4, 1);
    x.order(0, 1, 90, 4, 2);
    x.order(0, 0, 102, 4, 3);
    check.is("14 where orders wait", x.wouldAuction(0), 101);
    check.is("14 all of it", both(x.wouldAuction(1), x.wouldAuction(2)), both(8, 0));
  }

  private static void hiddenCountsWhole() {
    Orderbook x = new Orderbook();
    x.gather();
    x.hidden(0, 110, 9, 1, 0);
    x.order(0, 1, 100, 7, 1);
    check.is("36 LEFT, not SHOWN", both(x.wouldAuction(1), x.wouldAuction(2)), both(7, 2));
    x.auction();
    check.is("14 all that trades", both(x.house(11), x.house(10)), both(7, 7));
  }

  private static void hiddenSellsWhole() {
    Orderbook x = new Orderbook();
    x.gather();
    x.hidden(1, 100, 9, 1, 0);
    x.order(0, 0, 110, 7, 1);
    check.is("36 LEFT, not SHOWN", both(x.wouldAuction(1), x.wouldAuction(2)), both(7, 2));
    x.auction();
    check.is("14 all that trades", both(x.house(11), x.house(10)), both(7, 7));
  }

  private static void sleepersDoNotCount() {
    Orderbook x = new Orderbook();
    x.gather();
    x.sleeper(0, 999, 110, 9, 0);
    x.order(0, 1, 100, 7, 1);
    check.is("14 who sleeps takes no part", x.auction(), -1);
  }

  private static void noBandInAnAuction() {
    Orderbook x = new Orderbook();
    x.gather();
    x.order(0, 0, 300, 4, 0);
    x.order(0, 1, 300, 4, 1);
    x.band(500, 0);
    check.is("14 off the band", x.auction(), 300);
    check.is("14 no break", both(x.house(1), x.house(16)), 0);
    check.is("14 the band stays", both(x.house(3), x.house(4)), both(300, 0));
  }

  private static void tradesUpToThePrice() {
    Orderbook x = new Orderbook();
    x.gather();
    x.order(0, 0, 99, 2, 0);
    x.order(0, 0, 100, 5, 0);
    x.order(0, 0, 101, 1, 2);
    x.order(0, 1, 100, 2, 1);
    x.order(0, 1, 99, 1, 3);
    x.order(0, 1, 101, 2, 3);
    check.is("14 the price", x.auction(), 100);
    check.is("14 best ones first, all at it", x.tape(0), "1x100 2x100");
    check.is("14 who met", both(x.trade(0, 2), x.trade(0, 3)), both(2, 4));
    check.is("14 who met then", both(x.trade(1, 2), x.trade(1, 3)), both(1, 3));
    check.is("14 who came", both(x.trade(0, 5), x.trade(1, 5)), both(2, 2));
    check.is("14 what waits then", x.text(0) + " " + x.text(1), "100x3 99x2 101x2");
    check.is("38 not crossed", x.isSound(), true);
  }

  private static void bidsBelowThePrice() {
    Orderbook x = new Orderbook();
    x.gather();
    x.order(0, 1, 100, 9, 0);
    x.order(0, 0, 100, 3, 1);
    x.order(0, 0, 99, 2, 2);
    check.is("14 the price", x.auction(), 100);
    check.is("14 over at a bid below it", x.tape(0), "3x100");
    check.is("14 both wait", x.text(0) + " " + x.text(1), "99x2 100x6");
  }

  private static void asksAboveThePrice() {
    Orderbook x = new Orderbook();
    x.gather();
    x.order(0, 0, 100, 9, 0);
    x.order(0, 1, 100, 3, 1);
    x.order(0, 1, 101, 2, 2);
    check.is("14 the price", x.auction(), 100);
    check.is("14 over at an ask above it", x.tape(0), "3x100");
    check.is("14 both wait", x.text(0) + " " + x.text(1), "100x6 101x2");
  }

  private static void tradesWithItself() {
    Orderbook x = new Orderbook();
    x.gather();
    x.order(0, 0, 100, 5, 4);
    x.order(0, 1, 100, 5, 4);
    check.is("14 the price", x.auction(), 100);
    check.is("s3 an owner with itself", both(x.ofOrder(0, 7), x.ofOrder(1, 7)), both(2, 2));
    check.is("s3 position and money", both(x.account(4, 0), x.account(4, 1)), 0);
    check.is("s3 no meeting is counted", x.account(4, 6), 0);
    check.is("38 sound", x.isSound(), true);
  }

  private static void partsInAnAuction() {
    Orderbook x = new Orderbook();
    x.gather();
    x.hidden(0, 100, 5, 2, 0);
    x.order(0, 0, 100, 2, 1);
    x.hidden(1, 100, 6, 3, 2);
    x.auction();
    check.is("14 parts on both sides", x.tape(0), "2x100 1x100 1x100 2x100");
    check.is("14 who bought", both(x.trade(1, 2), x.trade(3, 2)), both(1, 0));
    check.is("14 the last part", both(x.ofOrder(0, 6), x.ofOrder(0, 5)), both(1, 1));
    check.is("14 the seller is done", x.ofOrder(2, 7), 2);
  }

  private static void referenceAndPhase() {
    Orderbook x = new Orderbook();
    x.gather();
    x.order(0, 0, 321, 1, 0);
    x.order(0, 1, 321, 1, 1);
    check.is("14 told", x.auction(), 321);
    check.is("14 the reference", x.house(3), 321);
    check.is("14 open", x.house(1), 0);
    check.fails("14 not twice", STATE, () -> x.auction());
    x.gather();
    check.is("14 none", x.auction(), -1);
    check.is("14 the reference stays", x.house(3), 321);
  }

  private static void auctionWakesAtItsPrice() {
    Orderbook x = new Orderbook();
    x.sleeper(0, 101, 10, 1, 0);
    x.sleeper(0, 100, 11, 1, 0);
    x.sleeper(1, 99, 900, 1, 0);
    x.sleeper(1, 100, 901, 1, 0);
    x.gather();
    x.order(0, 0, 105, 1, 1);
    x.order(0, 1, 100, 1, 2);
    check.is("14 told", x.auction(), 100);
    check.is("s3 awake at it", x.text(0) + " " + x.text(1), "11x1 901x1");
    check.is("s3 the others sleep", both(x.sleepers(0), x.sleepers(1)), both(1, 1));
  }

  private static void newReferenceForThoseAwake() {
    Orderbook x = new Orderbook();
    x.sleeper(0, 300, 320, 1, 0);
    x.gather();
    x.order(0, 0, 300, 1, 1);
    x.order(0, 1, 300, 1, 2);
    x.order(0, 1, 310, 1, 2);
    x.band(500, 10);
    check.is("14 told", x.auction(), 300);
    check.is("s3 310 is within 10 of 300", x.tape(1), "1x310");
    check.is("28 it came", x.trade(1, 5), 0);
    Orderbook y = new Orderbook();
    y.sleeper(0, 300, 320, 1, 0);
    y.gather();
    y.order(0, 0, 300, 1, 1);
    y.order(0, 1, 300, 1, 2);
    y.order(0, 1, 311, 1, 2);
    y.band(311, 10);
    check.is("14 told, though it halts then", y.auction(), 300);
    check.is("s3 311 is not", both(y.house(1), y.house(16)), both(2, 1));
  }

  private static void auctionWithoutPrice() {
    Orderbook x = new Orderbook();
    x.sleeper(0, 1, 999, 1, 0);
    x.gather();
    x.order(0, 1, 100, 1, 2);
    check.is("14 none", x.auction(), -1);
    check.is("s3 wakes none", both(x.sleepers(0), x.house(10)), both(1, 0));
  }
}
