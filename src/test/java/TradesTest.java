/** Promises 28 to 39: trades, accounts, what was told, what would be, the past and the checksum. */
public final class TradesTest {
  private static final Class<?> ARGUMENT = IllegalArgumentException.class;
  private static final Class<?> INDEX = IndexOutOfBoundsException.class;
  private static final Check check = new Check();

  public static void main(String[] args) {
    trade();
    tape();
    minute();
    account();
    house();
    refused();
    told();
    would();
    wouldAuction();
    past();
    soundAndDigest();
    check.end();
  }

  /** Trades 4x100 at minute 0, then 3x101, 2x99 and 5x98 at minute 7; orders 0 to 6. */
  private static Orderbook sample() {
    Orderbook x = new Orderbook();
    x.order(0, 1, 100, 4, 0);
    x.order(0, 0, 100, 4, 1);
    x.pass(7);
    x.order(0, 1, 101, 3, 0);
    x.order(0, 0, 101, 3, 2);
    x.order(0, 0, 99, 2, 3);
    x.order(0, 0, 98, 9, 4);
    x.order(1, 1, 98, 7, 5);
    x.pass(1);
    return x;
  }

  private static void trade() {
    Orderbook x = sample();
    int[][] due = {{100, 4, 1, 0, 0, 0}, {101, 3, 3, 2, 7, 0}, {99, 2, 4, 6, 7, 1}, {98, 5, 5, 6, 7, 1}};
    for (int nth = 0; nth < due.length; nth++) {
      for (int what = 0; what <= 5; what++) {
        check.is("28 " + nth + " " + what, x.trade(nth, what), due[nth][what]);
      }
    }
    check.fails("28 below", INDEX, () -> x.trade(-1, 0));
    check.fails("28 above, ahead of what", INDEX, () -> x.trade(4, 6));
    check.fails("28 what below", ARGUMENT, () -> x.trade(0, -1));
    check.fails("28 what above", ARGUMENT, () -> x.trade(0, 6));
  }

  private static void tape() {
    Orderbook x = sample();
    check.is("29 all", x.tape(0), "4x100 3x101 2x99 5x98");
    check.is("29 from", x.tape(2), "2x99 5x98");
    check.is("29 the last", x.tape(3), "5x98");
    check.is("29 behind", x.tape(4), "-");
    check.is("29 far behind", x.tape(Integer.MAX_VALUE), "-");
    check.fails("29 below", ARGUMENT, () -> x.tape(-1));
    x.hidden(1, 200, 9, 1, 0);
    x.order(0, 0, 200, 9, 1);
    check.is("29 eight at most", x.tape(4), "1x200 1x200 1x200 1x200 1x200 1x200 1x200 1x200");
    check.is("29 across", x.tape(12), "1x200");
  }

  private static void minute() {
    Orderbook x = sample();
    int[] due = {3, 10, 991, 101, 98, 101, 98};
    for (int what = 0; what <= 6; what++) {
      check.is("30 " + what, x.minute(7, what), due[what]);
      check.is("30 without trades " + what, x.minute(8, what), what <= 2 ? 0 : -1);
      check.is("30 between " + what, x.minute(3, what), what <= 2 ? 0 : -1);
    }
    check.is("30 the first", x.minute(0, 2), 400);
    check.is("30 the last", x.minute(9999, 0), 0);
    check.fails("30 below", ARGUMENT, () -> x.minute(-1, 0));
    check.fails("30 above", ARGUMENT, () -> x.minute(10000, 0));
    check.fails("30 what below", ARGUMENT, () -> x.minute(0, -1));
    check.fails("30 what above", ARGUMENT, () -> x.minute(0, 7));
  }

  private static void account() {
    Orderbook x = sample();
    x.limit(0, 321);
    x.order(0, 0, 50, 10, 0);
    x.sleeper(0, 400, 400, 20, 0);
    x.hidden(1, 500, 40, 3, 0);
    x.sleeper(1, 2, 300, 80, 0);
    x.order(0, 1, 50, 1, 0);
    int[] due = {-7 - 1, 703 + 98, 321, 30, 120, 4, 0};
    for (int what = 0; what <= 6; what++) {
      check.is("31 " + what, x.account(0, what), due[what]);
    }
    x.order(1, 0, 500, 1, 0);
    check.is("31 its own one ended", x.account(0, 6), 1);
    check.is("31 bought", x.account(4, 0) * 1000 + x.account(4, 1), 6000 - 588);
    check.fails("31 owner below", ARGUMENT, () -> x.account(-1, 0));
    check.fails("31 owner above", ARGUMENT, () -> x.account(6, 0));
    check.fails("31 what below", ARGUMENT, () -> x.account(0, -1));
    check.fails("31 what above", ARGUMENT, () -> x.account(0, 7));
  }

  private static void house() {
    Orderbook x = sample();
    x.sleeper(0, 400, 400, 20, 0);
    x.tick(3);
    x.band(300, 200);
    x.order(1, 0, 300, 1, 0);
    x.first(0, 1);
    x.knock();
    int[] due = {8, 0, 3, 300, 200, 9, 1, 1, 6, 1, 4, 14, 98, 13, 1, 1, 0};
    for (int what = 0; what <= 16; what++) {
      check.is("32 " + what, x.house(what), due[what]);
    }
    check.fails("32 below", ARGUMENT, () -> x.house(-1));
    check.fails("32 above", ARGUMENT, () -> x.house(17));
  }

  private static void refused() {
    Orderbook x = sample();
    x.tick(10);
    x.order(0, 0, 5, 1, 0);
    x.change(5, 97);
    x.order(2, 1, 10, 100, 0);
    check.is("33 by tick", x.refused(2), 2);
    check.is("33 by lack", x.refused(8), 1);
    check.is("33 not told", x.refused(1), 0);
    check.fails("33 below", ARGUMENT, () -> x.refused(0));
    check.fails("33 above", ARGUMENT, () -> x.refused(9));
  }

  private static void told() {
    Orderbook x = new Orderbook();
    check.fails("34 none", INDEX, () -> x.told(0, false));
    x.order(0, 0, 10, 5, 0);
    x.hidden(0, 11, 5, 2, 1);
    x.sleeper(0, 500, 11, 5, 1);
    x.cancel(0);
    x.cancelAll(5);
    x.less(1, 2);
    x.change(1, 12);
    x.pass(9);
    x.tick(2);
    x.band(400, 999);
    x.limit(1, 77);
    x.gather();
    x.auction();
    x.halt();
    x.order(0, 0, 10, 5, 0);
    x.resume();
    x.blank();
    x.knock();
    check.fails("5 thrown", IllegalStateException.class, () -> x.cancel(0));
    int[] kinds = {0, 1, 2, 3, 4, 5, 6, 7, 8, 9, 10, 11, 12, 13, 0, 14};
    int[] answers = {0, 1, 2, 5, 0, 3, 3, 9, 1, 500, 5000, 0, -1, 1, -1, 1};
    for (int nth = 0; nth < kinds.length; nth++) {
      check.is("34 number " + nth, x.told(nth, false), kinds[nth]);
      check.is("34 answer " + nth, x.told(nth, true), answers[nth]);
    }
    check.is("32 so many", x.house(13), 16);
    check.fails("34 behind", INDEX, () -> x.told(16, true));
    check.fails("34 below", INDEX, () -> x.told(-1, true));
  }

  private static void would() {
    Orderbook x = new Orderbook();
    x.order(0, 1, 100, 4, 0);
    x.hidden(1, 101, 9, 2, 1);
    x.order(0, 1, 102, 5, 2);
    x.sleeper(1, 100, 100, 50, 3);
    check.is("35 pieces", x.would(0, 101, 10, 5, false), 10);
    check.is("35 money", x.would(0, 101, 10, 5, true), 400 + 606);
    check.is("35 not more than reached", x.would(0, 101, 100, 5, false), 13);
    check.is("35 without its own", x.would(0, 101, 100, 0, true), 909);
    check.is("35 not reached", x.would(0, 99, 100, 5, false), 0);
    check.is("35 nobody there", x.would(1, 1, 100, 5, false), 0);
    x.limit(5, 0);
    x.tick(7);
    check.is("35 reasons do not matter", x.would(0, 999, 500, 5, false), 18);
    x.band(100, 1);
    check.is("35 up to the band", x.would(0, 999, 500, 5, false), 13);
    x.halt();
    check.is("35 halted", x.would(0, 999, 500, 5, false), 0);
    x.gather();
    check.is("35 gathering", x.would(0, 999, 500, 5, true), 0);
    check.fails("35 side", ARGUMENT, () -> x.would(2, 1, 1, 0, false));
    check.fails("35 price below", ARGUMENT, () -> x.would(0, 0, 1, 0, false));
    check.fails("35 price above", ARGUMENT, () -> x.would(0, 1000, 1, 0, false));
    check.fails("35 pieces below", ARGUMENT, () -> x.would(0, 1, 0, 0, false));
    check.fails("35 pieces above", ARGUMENT, () -> x.would(0, 1, 501, 0, false));
    check.fails("35 owner below", ARGUMENT, () -> x.would(0, 1, 1, -1, false));
    check.fails("35 owner above", ARGUMENT, () -> x.would(0, 1, 1, 6, false));
    check.is("35 nothing is changed", x.text(1), "100x4 101x2 102x5");
  }

  private static void wouldAuction() {
    Orderbook x = sample();
    check.is("36 open: none", x.wouldAuction(0), -1);
    check.is("36 none traded", x.wouldAuction(1) + x.wouldAuction(2), 0);
    x.gather();
    x.order(0, 1, 90, 1, 0);
    check.is("36 price", x.wouldAuction(0), 90);
    check.is("36 pieces", x.wouldAuction(1), 1);
    check.is("36 left over", x.wouldAuction(2), 3);
    check.is("36 nothing is changed", x.house(10), 4);
    check.fails("36 below", ARGUMENT, () -> x.wouldAuction(-1));
    check.fails("36 above", ARGUMENT, () -> x.wouldAuction(3));
  }

  private static void past() {
    Orderbook x = sample();
    x.knock();
    x.blank();
    int[] due = {7, 0, 1, 500, 999, 6, 2, 0, 4, 0, 2, 7, 101, 7, 0, 0, 0, 99, -1};
    for (int what = 0; what <= 18; what++) {
      check.is("37 " + what, x.past(7, what), due[what]);
    }
    check.is("37 ask", x.past(1, 18), 100);
    check.is("37 nothing yet", x.past(0, 12), -1);
    check.is("37 all", x.past(9, 0), 8);
    check.is("37 back again", x.past(2, 10), 1);
    check.fails("37 below", ARGUMENT, () -> x.past(-1, 0));
    check.fails("37 above", ARGUMENT, () -> x.past(10, 0));
    check.fails("37 what below", ARGUMENT, () -> x.past(0, -1));
    check.fails("37 what above", ARGUMENT, () -> x.past(0, 19));
  }

  private static void soundAndDigest() {
    Orderbook empty = new Orderbook();
    check.is("39 of a new one", empty.digest(), DigestByFace.of(empty));
    Orderbook x = sample();
    check.is("38 sound", x.isSound(), true);
    x.gather();
    x.order(0, 1, 50, 1, 0);
    check.is("38 crossed in gathering is sound", x.isSound(), true);
    check.is("39 by the face", x.digest(), DigestByFace.of(x));
    check.is("39 changes nothing", x.digest(), DigestByFace.of(x));
  }
}
