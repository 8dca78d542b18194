/** Promises 9 to 18: minutes, rules of the house, phases, auctions, blank and knock. */
public final class HouseTest {
  private static final Class<?> ARGUMENT = IllegalArgumentException.class;
  private static final Class<?> STATE = IllegalStateException.class;
  private static final Check check = new Check();

  public static void main(String[] args) {
    pass();
    tickBandLimit();
    phases();
    auctionPrice();
    auctionTrades();
    auctionWakes();
    blankAndKnock();
    check.end();
  }

  private static void pass() {
    Orderbook x = new Orderbook();
    check.fails("9 none", ARGUMENT, () -> x.pass(0));
    check.fails("9 too many", ARGUMENT, () -> x.pass(100));
    for (int i = 1; i <= 101; i++) {
      check.is("9 goes by", x.pass(99), 99 * i);
    }
    check.is("9 the last", x.house(0), 9999);
    check.fails("9 behind the last", STATE, () -> x.pass(1));
    check.fails("9 argument first", ARGUMENT, () -> x.pass(100));
    check.is("9 stays", x.house(0), 9999);
    Orderbook y = new Orderbook();
    check.is("9 one", y.pass(1), 1);
  }

  private static void tickBandLimit() {
    Orderbook x = new Orderbook();
    check.fails("10 below", ARGUMENT, () -> x.tick(0));
    check.fails("10 above", ARGUMENT, () -> x.tick(11));
    x.order(0, 0, 7, 1, 0);
    check.is("10 before", x.tick(10), 1);
    check.is("10 before again", x.tick(2), 10);
    check.is("10 those there stay", x.text(0), "7x1");
    check.fails("11 reference below", ARGUMENT, () -> x.band(0, 5));
    check.fails("11 reference above", ARGUMENT, () -> x.band(1000, 5));
    check.fails("11 band below", ARGUMENT, () -> x.band(5, -1));
    check.fails("11 band above", ARGUMENT, () -> x.band(5, 1000));
    check.is("11 before", x.band(999, 0), 500);
    check.is("11 before again", x.band(1, 999), 999);
    check.is("11 told", x.house(3) * 1000 + x.house(4), 1999);
    check.fails("12 owner below", ARGUMENT, () -> x.limit(-1, 5));
    check.fails("12 owner above", ARGUMENT, () -> x.limit(6, 5));
    check.fails("12 limit below", ARGUMENT, () -> x.limit(0, -1));
    check.fails("12 limit above", ARGUMENT, () -> x.limit(0, 10000));
    check.is("12 before", x.limit(0, 9999), 5000);
    check.is("12 before again", x.limit(0, 0), 9999);
    check.is("12 of others", x.account(1, 2), 5000);
    check.is("12 those there stay", x.house(6), 1);
  }

  private static void phases() {
    Orderbook x = new Orderbook();
    check.fails("14 open", STATE, () -> x.auction());
    check.fails("16 open", STATE, () -> x.resume());
    x.order(0, 0, 7, 1, 0);
    x.order(0, 1, 9, 1, 0);
    x.sleeper(0, 9, 9, 1, 0);
    check.is("15 how many wait", x.halt(), 2);
    check.is("15 halted", x.house(1), 2);
    check.fails("15 twice", STATE, () -> x.halt());
    check.fails("14 halted", STATE, () -> x.auction());
    check.is("16 how many wait", x.resume(), 2);
    check.is("16 open", x.house(1), 0);
    check.is("13 the phase before", x.gather(), 0);
    check.fails("13 twice", STATE, () -> x.gather());
    check.fails("15 gathering", STATE, () -> x.halt());
    check.fails("16 gathering", STATE, () -> x.resume());
    check.is("14 none", x.auction(), -1);
    check.is("14 open", x.house(1), 0);
    check.is("14 the reference stays", x.house(3), 500);
    x.halt();
    check.is("13 from halted", x.gather(), 2);
    check.is("13 gathering", x.house(1), 1);
  }

  private static void auctionPrice() {
    Orderbook x = new Orderbook();
    x.gather();
    x.order(0, 0, 105, 10, 0);
    x.order(0, 1, 100, 10, 1);
    check.is("14 the smallest of several", x.wouldAuction(0), 100);
    x.order(0, 0, 102, 5, 2);
    check.is("14 the least left over", x.wouldAuction(0), 105);
    check.is("36 traded", x.wouldAuction(1), 10);
    check.is("36 left over", x.wouldAuction(2), 0);
    x.order(0, 1, 102, 2, 3);
    check.is("14 the most traded", x.wouldAuction(0), 102);
    check.is("36 traded then", x.wouldAuction(1) * 10 + x.wouldAuction(2), 123);
    check.is("14 told", x.auction(), 102);
    check.is("14 the reference", x.house(3), 102);
    check.is("14 tape", x.tape(0), "10x102 2x102");
    check.is("14 the rest", x.text(0) + x.text(1), "102x3-");
    check.is("14 open", x.house(1), 0);
  }

  private static void auctionTrades() {
    Orderbook x = new Orderbook();
    x.gather();
    x.hidden(0, 50, 6, 2, 0);
    x.order(0, 0, 50, 3, 1);
    x.hidden(1, 50, 8, 5, 0);
    check.is("14 told", x.auction(), 50);
    check.is("14 parts anew behind", x.tape(0), "2x50 3x50 2x50 1x50");
    check.is("14 with itself", x.trade(0, 2) * 10 + x.trade(0, 3), 2);
    check.is("14 who came", x.trade(0, 5), 2);
    check.is("14 position", x.account(0, 0), -3);
    check.is("14 money", x.account(0, 1), 150);
    check.is("31 no clash", x.account(0, 6), 0);
    check.is("14 what is left shows", x.text(0), "50x1");
    check.is("38 sound", x.isSound(), true);
  }

  private static void auctionWakes() {
    Orderbook x = new Orderbook();
    x.sleeper(0, 400, 420, 5, 0);
    x.sleeper(1, 399, 400, 5, 0);
    x.band(500, 100);
    x.gather();
    x.order(0, 0, 400, 1, 1);
    x.order(0, 1, 400, 3, 2);
    x.order(0, 1, 480, 3, 3);
    check.is("14 told", x.auction(), 400);
    check.is("14 behind it the sleeper comes", x.tape(0), "1x400 2x400");
    check.is("14 and waits", x.text(0), "420x3");
    check.is("14 who came", x.trade(1, 5), 0);
    check.is("14 the other one sleeps", x.sleepers(1), 1);
    Orderbook y = new Orderbook();
    y.sleeper(0, 400, 600, 5, 0);
    y.gather();
    y.order(0, 0, 400, 1, 1);
    y.order(0, 1, 400, 1, 2);
    y.order(0, 1, 550, 1, 3);
    y.band(500, 60);
    check.is("14 told", y.auction(), 400);
    check.is("14 the new reference breaks the sleeper", y.house(1) * 10 + y.house(16), 21);
  }

  private static void blankAndKnock() {
    Orderbook x = new Orderbook();
    check.is("17", x.blank(), -9);
    check.is("17 again", x.blank(), -9);
    check.is("17 counted", x.house(14), 2);
    check.is("18", x.knock(), 1);
    check.is("18 again", x.knock(), 2);
    check.is("18 counted", x.house(15), 2);
    check.is("18 not told", x.house(13), 0);
    check.is("38 sound beside them", x.isSound(), true);
  }
}
