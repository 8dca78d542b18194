/** Promise 39 computed from the answers of the other methods. */
final class DigestByFace {
  private long d = 5309;

  static long of(Orderbook x) {
    DigestByFace sum = new DigestByFace();
    sum.addHouseAndSides(x);
    sum.addOrdersAndTrades(x);
    sum.addTheRest(x);
    return sum.d;
  }

  private void add(long v) {
    d = d * 31 + v;
  }

  private void addHouseAndSides(Orderbook x) {
    for (int what = 0; what <= 16; what++) {
      add(x.house(what));
    }
    for (int side = 0; side <= 1; side++) {
      add(x.best(side));
      add(x.sleepers(side));
      add(x.text(side).length());
      for (int nth = 0; nth <= 2; nth++) {
        for (int what = 0; what <= 5; what++) {
          add(x.level(side, nth, what));
        }
      }
      add(x.depth(side, 500));
    }
  }

  private void addOrdersAndTrades(Orderbook x) {
    int orders = x.house(5);
    for (int order = orders - 1; order >= 0 && order >= orders - 8; order--) {
      for (int what = 0; what <= 10; what++) {
        add(x.ofOrder(order, what));
      }
    }
    int trades = x.house(10);
    for (int nth = trades - 1; nth >= 0 && nth >= trades - 6; nth--) {
      for (int what = 0; what <= 5; what++) {
        add(x.trade(nth, what));
      }
    }
  }

  private void addTheRest(Orderbook x) {
    for (int what = 0; what <= 6; what++) {
      add(x.minute(x.house(0), what));
    }
    for (int owner = 0; owner < 6; owner++) {
      for (int what = 0; what <= 6; what++) {
        add(x.account(owner, what));
      }
    }
    for (int reason = 1; reason <= 8; reason++) {
      add(x.refused(reason));
    }
    for (int what = 0; what <= 2; what++) {
      add(x.wouldAuction(what));
    }
    add(x.would(0, 999, 100, 0, false));
    add(x.would(0, 999, 100, 0, true));
    add(x.isSound() ? 1 : 0);
  }
}
