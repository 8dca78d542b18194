/** Calls the methods of Orderbook by number, as Model does; what is thrown is its class, if Orderbook threw it. */
final class Face {
  private static final int[] ARGUMENTS = {5, 5, 5, 1, 1, 2, 2, 1, 1, 2, 2, 0, 0, 0, 0, 0, 0, 1, 3, 2,
      2, 3, 2, 3, 1, 1, 2, 1, 2, 2, 1, 1, 2, 5, 1, 2, 0, 0};

  static final int CALLS = ARGUMENTS.length;
  static final int SOUND = 36;
  static final int DIGEST = 37;

  static int arguments(int call) {
    return ARGUMENTS[call];
  }

  static Object call(Orderbook x, int call, int... a) {
    try {
      return call <= 14 ? (Object) (long) told(x, call, a) : asked(x, call, a);
    } catch (RuntimeException e) {
      return Check.thrownBy(e);
    }
  }

  private static int told(Orderbook x, int call, int[] a) {
    switch (call) {
      case 0: return x.order(a[0], a[1], a[2], a[3], a[4]);
      case 1: return x.hidden(a[0], a[1], a[2], a[3], a[4]);
      case 2: return x.sleeper(a[0], a[1], a[2], a[3], a[4]);
      case 3: return x.cancel(a[0]);
      case 4: return x.cancelAll(a[0]);
      case 5: return x.less(a[0], a[1]);
      case 6: return x.change(a[0], a[1]);
      case 7: return x.pass(a[0]);
      case 8: return x.tick(a[0]);
      case 9: return x.band(a[0], a[1]);
      case 10: return x.limit(a[0], a[1]);
      case 11: return x.gather();
      case 12: return x.auction();
      case 13: return x.halt();
      default: return x.resume();
    }
  }

  private static Object asked(Orderbook x, int call, int[] a) {
    switch (call) {
      case 24: return x.text(a[0]);
      case 27: return x.tape(a[0]);
      case SOUND: return x.isSound() ? 1L : 0L;
      case DIGEST: return x.digest();
      default: return (long) number(x, call, a);
    }
  }

  private static int number(Orderbook x, int call, int[] a) {
    switch (call) {
      case 15: return x.blank();
      case 16: return x.knock();
      case 17: return x.best(a[0]);
      case 18: return x.level(a[0], a[1], a[2]);
      case 19: return x.ofOrder(a[0], a[1]);
      case 20: return x.first(a[0], a[1]);
      case 21: return x.queued(a[0], a[1], a[2]);
      case 22: return x.depth(a[0], a[1]);
      case 23: return x.between(a[0], a[1], a[2]);
      case 25: return x.sleepers(a[0]);
      case 26: return x.trade(a[0], a[1]);
      case 28: return x.minute(a[0], a[1]);
      case 29: return x.account(a[0], a[1]);
      case 30: return x.house(a[0]);
      case 31: return x.refused(a[0]);
      case 32: return x.told(a[0], a[1] == 1);
      case 33: return x.would(a[0], a[1], a[2], a[3], a[4] == 1);
      case 34: return x.wouldAuction(a[0]);
      default: return x.past(a[0], a[1]);
    }
  }
}
