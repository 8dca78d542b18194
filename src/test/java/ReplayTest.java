/** Promises 35 to 39, and the 512 calls of an object: what would be, what was, and the checksum. */
public final class ReplayTest {
  private static final Class<?> ARGUMENT = IllegalArgumentException.class;
  private static final Class<?> INDEX = IndexOutOfBoundsException.class;
  private static final Check check = new Check();

  public static void main(String[] args) {
    wouldOfNobody();
    wouldByPieces();
    wouldOfWhatIsLeft();
    wouldByReach();
    wouldBySell();
    wouldByOwner();
    wouldByBand();
    wouldInEachPhase();
    wouldWithoutReasons();
    wouldNotWake();
    wouldMoneyAtMost();
    wouldAuctionOfNone();
    wouldAuctionBehindOne();
    pastOfNone();
    pastToTheLast();
    pastOfTheHouse();
    pastOfBothBests();
    pastCountsNothing();
    pastWithReasons();
    pastBackAndForth();
    pastWakesByNumberAgain();
    soundAtEachPhase();
    digestOfFewOrders();
    digestOfFewTrades();
    digestOfFewLevels();
    digestOfWould();
    lastCall();
    lastOrder();
    check.end();
  }

  private static int both(int high, int low) {
    return high * 1000 + low;
  }

  private static void wouldOfNobody() {
    Orderbook x = new Orderbook();
    x.sleeper(1, 10, 10, 5, 1);
    check.is("35 nobody waits", x.would(0, 999, 500, 0, false), 0);
    check.is("35 no money", x.would(0, 999, 500, 0, true), 0);
  }

  /** SELL 100: 4; 101: 6, of which 2 are shown. */
  private static Orderbook asks() {
    Orderbook x = new Orderbook();
    x.order(0, 1, 100, 4, 1);
    x.hidden(1, 101, 6, 2, 2);
    return x;
  }

  private static void wouldByPieces() {
    int[][] due = {{1, 1, 100}, {4, 4, 400}, {5, 5, 501}, {6, 6, 602}, {7, 7, 703}, {10, 10, 1006}, {11, 10, 1006}};
    for (int[] row : due) {
      Orderbook x = asks();
      check.is("35 of " + row[0], x.would(0, 101, row[0], 0, false), row[1]);
      check.is("35 money of " + row[0], x.would(0, 101, row[0], 0, true), row[2]);
      check.is("35 nothing is changed", x.text(1) + x.house(10) + x.house(13), "100x4 101x202");
      x.order(0, 0, 101, row[0], 0);
      check.is("35 as it then trades", both(x.account(0, 0), -x.account(0, 1)), both(row[1], row[2]));
    }
  }

  /** Of 9 pieces 4 are left, then come 7. */
  private static void wouldOfWhatIsLeft() {
    Orderbook x = new Orderbook();
    x.order(0, 1, 100, 9, 1);
    x.order(0, 0, 100, 5, 2);
    x.order(0, 1, 101, 7, 1);
    int[][] due = {{3, 3, 300}, {4, 4, 400}, {5, 5, 501}, {8, 8, 804}, {9, 9, 905}, {11, 11, 1107}, {12, 11, 1107}};
    for (int[] row : due) {
      check.is("35 of what is left " + row[0], x.would(0, 101, row[0], 0, false), row[1]);
      check.is("35 money of what is left " + row[0], x.would(0, 101, row[0], 0, true), row[2]);
    }
  }

  private static void wouldByReach() {
    Orderbook x = asks();
    check.is("35 one below", x.would(0, 99, 500, 0, false), 0);
    check.is("35 the best", x.would(0, 100, 500, 0, false), 4);
    check.is("35 the next", x.would(0, 101, 500, 0, false), 10);
  }

  private static void wouldBySell() {
    Orderbook x = new Orderbook();
    x.order(0, 0, 100, 4, 1);
    x.order(0, 0, 99, 6, 2);
    check.is("35 one above", x.would(1, 101, 500, 0, false), 0);
    check.is("35 the best", x.would(1, 100, 500, 0, true), 400);
    check.is("35 the next", x.would(1, 99, 5, 0, true), 499);
  }

  private static void wouldByOwner() {
    Orderbook x = asks();
    check.is("35 without its own", x.would(0, 101, 5, 1, true), 505);
    check.is("35 without its own, the last", x.would(0, 101, 5, 2, true), 400);
    check.is("35 its own wait on", both(x.house(6), x.account(1, 6)), both(2, 0));
  }

  private static void wouldByBand() {
    Orderbook x = asks();
    x.band(110, 10);
    check.is("35 at the edge", x.would(0, 999, 500, 0, false), 10);
    x.band(111, 10);
    check.is("35 the best is off", x.would(0, 999, 500, 0, false), 0);
    check.is("35 also if it is its own", x.would(0, 999, 500, 1, false), 0);
    x.band(91, 10);
    check.is("35 at the edge above", x.would(0, 999, 500, 0, false), 10);
    x.band(90, 10);
    check.is("35 the next one is off", x.would(0, 999, 500, 0, false), 4);
    check.is("35 no break", both(x.house(1), x.house(16)), 0);
  }

  private static void wouldInEachPhase() {
    Orderbook x = asks();
    x.halt();
    check.is("35 halted", both(x.would(0, 999, 9, 0, false), x.would(0, 999, 9, 0, true)), 0);
    check.failsUnchanged("35 argument also then", ARGUMENT, x, () -> x.would(0, 999, 0, 0, false));
    x.gather();
    check.is("35 gathering", both(x.would(0, 999, 9, 0, false), x.would(0, 999, 9, 0, true)), 0);
    x.auction();
    check.is("35 open", x.would(0, 999, 9, 0, false), 9);
  }

  private static void wouldWithoutReasons() {
    Orderbook x = asks();
    for (int i = 0; i < 58; i++) {
      x.order(0, 0, 50, 1, 3);
    }
    x.tick(10);
    x.limit(0, 0);
    check.is("35 tick, limit and sixty do not matter", x.would(0, 101, 9, 0, false), 9);
    x.band(100, 1);
    check.is("35 its own price may be off the band", x.would(0, 999, 9, 0, false), 9);
    check.is("33 none is counted", both(x.refused(2), x.refused(3) + x.refused(4) + x.refused(5)), 0);
  }

  private static void wouldNotWake() {
    Orderbook x = asks();
    x.sleeper(1, 100, 90, 50, 3);
    check.is("35 those it would wake do not matter", x.would(0, 101, 500, 0, false), 10);
    check.is("35 it sleeps on", x.sleepers(1), 1);
  }

  private static void wouldMoneyAtMost() {
    Orderbook x = new Orderbook();
    x.order(0, 1, 999, 500, 1);
    check.is("35 the most money", x.would(0, 999, 500, 0, true), 499500);
  }

  private static void wouldAuctionOfNone() {
    Orderbook x = asks();
    x.order(0, 0, 99, 5, 0);
    for (int phase = 0; phase <= 2; phase++) {
      check.is("36 none", x.wouldAuction(0), -1);
      check.is("36 nothing trades, nothing is left over", both(x.wouldAuction(1), x.wouldAuction(2)), 0);
      if (phase == 0) {
        x.halt();
      } else if (phase == 1) {
        x.gather();
      }
    }
    x.change(2, 100);
    check.is("36 one", x.wouldAuction(0), 100);
    check.is("36 4 of 5", both(x.wouldAuction(1), x.wouldAuction(2)), both(4, 1));
    check.is("36 nothing is changed", both(x.house(10), x.house(1)), 1);
  }

  private static void wouldAuctionBehindOne() {
    Orderbook x = new Orderbook();
    x.gather();
    x.order(0, 0, 120, 5, 0);
    x.order(0, 1, 100, 3, 1);
    check.is("36 as told then", x.wouldAuction(0), 100);
    check.is("14 as it would", x.auction(), 100);
    check.is("36 none behind it, nothing is left over", x.wouldAuction(2), 0);
    check.is("36 none behind it, nothing would trade", x.wouldAuction(1), 0);
    check.is("36 none behind it", x.wouldAuction(0), -1);
    x.gather();
    x.order(0, 1, 121, 3, 1);
    check.is("36 left over ahead of it", x.change(2, 119) + x.wouldAuction(2), 4);
    x.change(2, 121);
    check.is("36 nothing is left over then", x.wouldAuction(2), 0);
  }

  private static void pastOfNone() {
    Orderbook x = new Orderbook();
    int[] due = {0, 0, 1, 500, 999, 0, 0, 0, 0, 0, 0, 0, -1, 0, 0, 0, 0, -1, -1};
    for (int what = 0; what <= 18; what++) {
      check.is("37 nothing was told, " + what, x.past(0, what), due[what]);
    }
    check.failsUnchanged("37 one more", ARGUMENT, x, () -> x.past(1, 0));
    asks().past(0, 0);
    Orderbook y = asks();
    for (int what = 0; what <= 18; what++) {
      check.is("37 the first none of two, " + what, y.past(0, what), due[what]);
    }
  }

  private static void pastToTheLast() {
    Orderbook x = asks();
    check.is("37 all", x.past(2, 6), 2);
    check.failsUnchanged("37 more than all", ARGUMENT, x, () -> x.past(3, 6));
    check.failsUnchanged("37 less than none", ARGUMENT, x, () -> x.past(-1, 6));
    x.order(0, 0, 100, 4, 0);
    check.is("37 one more was told", x.past(3, 8), 2);
    check.is("37 ahead of it", x.past(2, 8), 0);
    check.is("37 and again", x.past(3, 10), 1);
  }

  private static void pastOfTheHouse() {
    Orderbook x = asks();
    x.pass(7);
    x.tick(2);
    x.band(105, 5);
    x.sleeper(0, 400, 100, 3, 0);
    x.order(1, 0, 102, 5, 4);
    x.band(120, 5);
    x.order(0, 0, 116, 5, 4);
    int[] due = {7, 2, 2, 120, 5, 5, 1, 1, 2, 1, 2, 5, 101, 9, 0, 0, 1, -1, 101};
    int[] live = new int[17];
    for (int what = 0; what <= 16; what++) {
      live[what] = x.house(what);
    }
    for (int what = 0; what <= 18; what++) {
      check.is("37 of all, " + what, x.past(9, what), due[what]);
      check.is("32 the same, " + what, what > 16 || live[what] == due[what], true);
    }
    int[] earlier = {7, 0, 2, 105, 5, 3, 2, 1, 0, 0, 0, 0, -1, 6, 0, 0, 0, -1, 100};
    for (int what = 0; what <= 18; what++) {
      check.is("37 of six, " + what, x.past(6, what), earlier[what]);
    }
  }

  private static void pastOfBothBests() {
    Orderbook x = new Orderbook();
    x.order(0, 0, 50, 5, 4);
    x.order(0, 1, 60, 5, 4);
    x.cancelAll(4);
    check.is("37 bids", both(x.past(1, 17), x.past(2, 17)), both(50, 50));
    check.is("37 asks", both(x.past(1, 18), x.past(2, 18)), -940);
    check.is("37 nobody again", both(x.past(3, 17), x.past(3, 18)), -1001);
  }

  private static void pastCountsNothing() {
    Orderbook x = asks();
    x.knock();
    x.blank();
    x.first(0, 1);
    String before = Snapshot.of(x);
    check.is("37 14 and 15 are 0", both(x.past(2, 14), x.past(2, 15)), 0);
    check.is("37 changes nothing", Snapshot.of(x), before);
    check.is("32 they are counted here", both(x.house(14), x.house(15)), both(2, 1));
  }

  /** A reason takes part in a replay, what throws does not. */
  private static void pastWithReasons() {
    Orderbook x = asks();
    x.halt();
    x.order(0, 0, 100, 4, 0);
    check.fails("16 thrown", IndexOutOfBoundsException.class, () -> x.cancel(2));
    x.resume();
    x.order(0, 0, 100, 4, 0);
    check.is("37 halted", both(x.past(3, 1), x.past(4, 1)), both(2, 2));
    check.is("37 refused", both(x.past(4, 5), x.past(4, 13)), both(2, 4));
    check.is("37 open again, and taken", both(x.past(5, 1), x.past(6, 5)), 3);
  }

  /** A replay that starts anew forgets all that the one before it did. */
  private static void pastBackAndForth() {
    Orderbook x = asks();
    x.sleeper(0, 100, 101, 5, 3);
    x.order(0, 0, 101, 5, 1);
    x.order(0, 0, 100, 5, 5);
    x.order(0, 1, 100, 1, 4);
    x.pass(3);
    x.tick(2);
    x.band(505, 5);
    x.limit(3, 77);
    x.order(0, 1, 499, 7, 3);
    x.order(1, 0, 501, 7, 3);
    x.halt();
    x.gather();
    int told = x.house(13);
    for (int many = 0; many <= told; many++) {
      check.is("37 so many were told", x.past(many, 13), many);
      check.is("38 sound behind it", x.isSound(), true);
      check.is("37 nothing again", both(x.past(0, 10), x.past(0, 5)), 0);
      check.is("37 all of it again", both(x.past(told, 10), x.past(told, 5)), both(x.house(10), x.house(5)));
    }
  }

  /** Each replay wakes by number, also where the last one left the same orders in their queues. */
  private static void pastWakesByNumberAgain() {
    Orderbook x = new Orderbook();
    x.sleeper(0, 100, 150, 1, 0);
    x.sleeper(0, 100, 200, 1, 1);
    x.order(0, 1, 100, 1, 3);
    x.order(0, 1, 150, 1, 4);
    x.order(0, 0, 100, 1, 5);
    check.is("s3 the second one waits", x.best(0), 200);
    for (int again = 0; again < 3; again++) {
      check.is("37 both sleep", both(x.past(0, 7), x.past(4, 7)), 2);
      check.is("37 the second one waits", both(x.past(5, 17), x.past(5, 7)), both(200, 0));
      check.is("38 sound again", x.isSound(), true);
    }
  }

  private static void soundAtEachPhase() {
    Orderbook x = asks();
    check.is("38 open", x.isSound(), true);
    x.gather();
    x.order(0, 0, 999, 500, 0);
    check.is("38 crossed while gathering", x.isSound(), true);
    x.auction();
    check.is("38 behind an auction", x.isSound(), true);
    x.halt();
    check.is("38 halted", x.isSound(), true);
    x.knock();
    x.blank();
    check.is("38 but 14 and 15", x.isSound(), true);
  }

  private static void digestOfFewOrders() {
    Orderbook x = new Orderbook();
    check.is("39 of no order", x.digest(), DigestByFace.of(x));
    for (int i = 1; i <= 10; i++) {
      x.sleeper(i % 2, 500 + i, 300 + i, i, i % 6);
      check.is("39 of " + i + " orders", x.digest(), DigestByFace.of(x));
    }
  }

  private static void digestOfFewTrades() {
    Orderbook x = new Orderbook();
    x.order(0, 1, 100, 500, 0);
    for (int i = 1; i <= 8; i++) {
      x.pass(1);
      x.order(0, 0, 100, i, 1);
      check.is("39 of " + i + " trades", x.digest(), DigestByFace.of(x));
    }
    x.pass(1);
    check.is("39 of a minute without trades", x.digest(), DigestByFace.of(x));
  }

  /** The texts grow from one digit to three, and by more levels than are looked at. */
  private static void digestOfFewLevels() {
    Orderbook x = new Orderbook();
    int[] prices = {9, 10, 99, 100, 498, 499, 500};
    for (int i = 0; i < prices.length; i++) {
      x.order(0, 0, prices[i], 9 + 80 * i, 0);
      x.order(0, 1, 1000 - prices[i], 10 + 80 * i, 1);
      check.is("39 of " + (i + 1) + " levels", x.digest(), DigestByFace.of(x));
    }
    x.order(0, 0, 9, 1, 0);
    x.order(0, 0, 9, 490, 0);
    x.order(0, 0, 9, 500, 2);
    check.is("39 of 1000 pieces at a price", x.digest(), DigestByFace.of(x));
  }

  private static void digestOfWould() {
    Orderbook x = new Orderbook();
    x.order(0, 1, 999, 99, 1);
    check.is("39 would trade 99", x.digest(), DigestByFace.of(x));
    x.order(0, 1, 999, 2, 1);
    check.is("39 would trade 100 of 101", x.digest(), DigestByFace.of(x));
    x.halt();
    check.is("39 would trade nothing", x.digest(), DigestByFace.of(x));
    long before = x.digest();
    x.knock();
    check.is("39 a knock is told in it", x.digest() == before, false);
  }

  /** The last of 512 calls each time: what later ones answer is free. */
  private static void lastCall() {
    check.is("s0 the last call is told", ticks(511).tick(7), 1);
    check.is("32 so many", ticks(511).house(13), 511);
    check.is("34 the last one", ticks(511).told(510, true), 10);
    check.is("37 all of them", ticks(511).past(511, 2), 1);
    check.is("37 but one", ticks(511).past(510, 2), 10);
    check.is("38 sound", ticks(511).isSound(), true);
    Orderbook x = ticks(511);
    check.fails("34 one more", INDEX, () -> x.told(511, true));
  }

  private static Orderbook ticks(int many) {
    Orderbook x = new Orderbook();
    for (int i = 0; i < many; i++) {
      x.tick(1 + i % 10);
    }
    return x;
  }

  /** Each pair of orders trades; who sold buys the next time. */
  private static void lastOrder() {
    Orderbook x = new Orderbook();
    for (int i = 0; i < 512; i++) {
      int side = (i + 1) % 2;
      check.is("s1 numbers", x.order(0, side, 100, 500, (i / 2 + side) % 2), i);
    }
  }
}
