/** Promises 1 to 8: a new object, and the calls that tell and take back orders. */
public final class OrdersTest {
  private static final Class<?> ARGUMENT = IllegalArgumentException.class;
  private static final Class<?> STATE = IllegalStateException.class;
  private static final Class<?> INDEX = IndexOutOfBoundsException.class;
  private static final Check check = new Check();

  public static void main(String[] args) {
    newObject();
    orderArguments();
    priceThenComing();
    atOnce();
    allOrNone();
    onlyToWait();
    reasonsInTheirOrder();
    limits();
    crowd();
    sameOwner();
    bandBreak();
    hidden();
    sleepers();
    sleepersInTurn();
    sleepersBehindABreak();
    cancel();
    cancelAll();
    less();
    change();
    changeWakes();
    check.end();
  }

  private static void newObject() {
    Orderbook x = new Orderbook();
    int[] due = {0, 0, 1, 500, 999, 0, 0, 0, 0, 0, 0, 0, -1, 0, 0, 0, 0};
    for (int what = 0; what < due.length; what++) {
      check.is("1 house " + what, x.house(what), due[what]);
    }
    for (int owner = 0; owner < 6; owner++) {
      check.is("1 limit", x.account(owner, 2), 5000);
      check.is("1 position", x.account(owner, 0), 0);
    }
    check.is("1 text", x.text(0) + x.text(1), "--");
    check.is("1 sound", x.isSound(), true);
  }

  private static void orderArguments() {
    Orderbook x = new Orderbook();
    int[][] wrong = {{-1, 0, 9, 9, 0}, {4, 0, 9, 9, 0}, {0, -1, 9, 9, 0}, {0, 2, 9, 9, 0},
        {0, 0, 0, 9, 0}, {0, 0, 1000, 9, 0}, {0, 0, 9, 0, 0}, {0, 0, 9, 501, 0},
        {0, 0, 9, 9, -1}, {0, 0, 9, 9, 6}};
    for (int[] a : wrong) {
      check.fails("2 arguments", ARGUMENT, () -> x.order(a[0], a[1], a[2], a[3], a[4]));
    }
    check.is("2 nothing was told", x.house(13), 0);
    check.is("2 the least", x.order(0, 0, 1, 1, 0), 0);
    check.is("2 the most", x.order(0, 1, 999, 500, 5), 1);
    check.is("2 texts", x.text(0) + " " + x.text(1), "1x1 999x500");
  }

  private static void priceThenComing() {
    Orderbook x = new Orderbook();
    x.order(0, 1, 102, 5, 0);
    x.order(0, 1, 101, 5, 1);
    x.order(0, 1, 101, 5, 2);
    x.order(0, 1, 100, 5, 3);
    check.is("2 taken", x.order(0, 0, 101, 12, 4), 4);
    check.is("2 tape", x.tape(0), "5x100 5x101 2x101");
    check.is("2 who sold", x.trade(1, 3) * 10 + x.trade(2, 3), 12);
    check.is("2 done", x.ofOrder(4, 7), 2);
    check.is("2 the rest stays first", x.first(1, 101), 2);
    check.is("2 more than there is", x.order(0, 0, 101, 9, 5), 5);
    check.is("2 waits with the rest", x.text(0) + " " + x.text(1), "101x6 102x5");
    check.is("2 sell reaches not above", x.order(0, 1, 102, 1, 4), 6);
    check.is("2 none of it trades", x.house(10), 4);
  }

  private static void atOnce() {
    Orderbook x = new Orderbook();
    x.order(0, 0, 50, 4, 0);
    check.is("2 at once", x.order(1, 1, 50, 9, 1), 1);
    check.is("2 at once ended", x.ofOrder(1, 7), 3);
    check.is("2 at once left", x.ofOrder(1, 5), 0);
    check.is("2 at once traded", x.ofOrder(1, 8), 4);
    check.is("2 nothing to trade", x.order(1, 1, 50, 9, 1), 2);
    check.is("2 ended too", x.ofOrder(2, 7), 3);
    check.is("2 none waits", x.house(6), 0);
  }

  private static void allOrNone() {
    Orderbook x = new Orderbook();
    x.hidden(1, 60, 10, 1, 0);
    x.order(0, 1, 61, 10, 1);
    x.order(0, 1, 62, 10, 2);
    check.is("2 own ones do not count", x.order(2, 0, 61, 11, 0), -8);
    check.is("2 not reached does not count", x.order(2, 0, 61, 21, 3), -8);
    x.band(60, 1);
    check.is("2 off the band does not count", x.order(2, 0, 61, 20, 3), 3);
    check.is("2 hidden ones do count", x.ofOrder(3, 7), 2);
    check.is("2 what is left", x.text(1), "62x10");
    check.is("2 twice refused", x.refused(8), 2);
  }

  private static void onlyToWait() {
    Orderbook x = new Orderbook();
    x.order(0, 1, 70, 5, 0);
    check.is("2 reached", x.order(3, 0, 70, 5, 0), -7);
    check.is("2 not reached", x.order(3, 0, 69, 5, 0), 1);
    check.is("2 reached by sell", x.order(3, 1, 69, 5, 1), -7);
    check.is("2 waits", x.ofOrder(1, 7), 0);
    check.is("2 kind", x.ofOrder(1, 4), 3);
  }

  private static void reasonsInTheirOrder() {
    Orderbook x = new Orderbook();
    x.limit(0, 0);
    x.tick(5);
    x.band(500, 10);
    check.is("2 tick ahead of band", x.order(0, 0, 7, 1, 0), -2);
    check.is("2 band ahead of limit", x.order(0, 0, 485, 1, 0), -3);
    check.is("2 band below is in", x.order(0, 0, 490, 1, 0), -4);
    check.is("2 band above is in", x.order(0, 1, 510, 1, 1), 0);
    check.is("2 band above is out", x.order(0, 1, 515, 1, 1), -3);
    check.is("4 trigger off the tick", x.sleeper(0, 501, 500, 1, 1), -2);
    check.is("4 trigger off the band", x.sleeper(0, 995, 500, 1, 1), 1);
    x.gather();
    check.is("2 limit ahead of gathering", x.order(1, 0, 500, 1, 0), -4);
    for (int kind = 1; kind <= 3; kind++) {
      check.is("2 gathering", x.order(kind, 0, 500, 1, 1), -6);
    }
    check.is("2 plain gathers", x.order(0, 0, 510, 1, 1), 2);
    check.is("3 hidden gathers", x.hidden(0, 510, 3, 1, 1), 3);
    check.is("4 sleeper gathers", x.sleeper(0, 500, 500, 1, 1), 4);
    x.auction();
    x.halt();
    check.is("2 halted first", x.order(1, 0, 7, 1, 0), -1);
    check.is("3 halted", x.hidden(0, 7, 1, 1, 0), -1);
    check.is("4 halted", x.sleeper(0, 7, 7, 1, 0), -1);
    int[] due = {3, 2, 2, 2, 0, 3, 0, 0};
    for (int reason = 1; reason <= 8; reason++) {
      check.is("33 refused " + reason, x.refused(reason), due[reason - 1]);
    }
  }

  private static void limits() {
    Orderbook x = new Orderbook();
    x.limit(0, 10);
    check.is("2 above", x.order(0, 0, 100, 11, 0), -4);
    check.is("2 as much", x.order(0, 0, 100, 4, 0), 0);
    check.is("4 sleepers count", x.sleeper(0, 200, 100, 3, 0), 1);
    check.is("3 hidden above", x.hidden(0, 100, 4, 1, 0), -4);
    check.is("2 of the other side", x.order(0, 1, 300, 10, 0), 2);
    check.is("2 of the other side above", x.order(0, 1, 300, 1, 0), -4);
    x.order(0, 1, 100, 4, 1);
    check.is("2 the position counts", x.order(0, 0, 100, 4, 0), -4);
    check.is("2 the position counts to the other side", x.order(0, 1, 300, 4, 0), 4);
    check.is("2 and no more", x.order(0, 1, 300, 1, 0), -4);
  }

  private static void crowd() {
    Orderbook x = new Orderbook();
    for (int i = 0; i < 59; i++) {
      x.order(0, 0, 10 + i, 1, 0);
    }
    check.is("4 the sixtieth", x.sleeper(0, 900, 900, 1, 1), 59);
    check.is("2 the next plain one", x.order(0, 0, 10, 1, 2), -5);
    check.is("2 also at once", x.order(1, 1, 10, 1, 2), -5);
    check.is("3 hidden", x.hidden(0, 10, 1, 1, 2), -5);
    check.is("4 sleeper", x.sleeper(0, 10, 10, 1, 2), -5);
    check.is("2 limit ahead of crowd", x.limit(2, 0) + x.order(0, 0, 10, 1, 2), 4996);
    check.is("5 one fewer", x.cancel(59), 1);
    check.is("2 room again", x.order(0, 0, 5, 1, 1), 60);
    check.is("38 sound", x.isSound(), true);
  }

  private static void sameOwner() {
    Orderbook x = new Orderbook();
    x.hidden(1, 100, 9, 2, 0);
    x.order(0, 1, 100, 3, 1);
    check.is("2 own one ends, all of it", x.order(0, 0, 100, 5, 0), 2);
    check.is("2 ended", x.ofOrder(0, 7), 3);
    check.is("2 told as 0", x.ofOrder(0, 5), 0);
    check.is("2 the other one trades", x.tape(0), "3x100");
    check.is("31 counted", x.account(0, 6), 1);
    check.is("31 not of others", x.account(1, 6), 0);
    check.is("2 the rest waits", x.text(0), "100x2");
  }

  private static void bandBreak() {
    Orderbook x = new Orderbook();
    x.order(0, 1, 500, 2, 0);
    x.order(0, 1, 510, 2, 1);
    x.band(500, 5);
    check.is("2 stays within", x.order(0, 0, 505, 9, 2), 2);
    check.is("2 not reached is no break", x.house(1), 0);
    x.cancel(2);
    x.band(506, 4);
    check.is("2 the price there is on the edge", x.order(1, 0, 510, 1, 1), 3);
    check.is("2 the own one at the edge ended", x.ofOrder(1, 7), 3);
    x.order(0, 1, 510, 2, 0);
    x.band(516, 5);
    check.is("2 taken", x.order(0, 0, 520, 9, 2), 5);
    check.is("2 it halts", x.house(1), 2);
    check.is("2 the one that came ended", x.ofOrder(5, 7), 3);
    check.is("2 the one that waits stays", x.text(1), "510x2");
    check.is("32 counted", x.house(16), 1);
    x.resume();
    check.is("2 its own ones halt too", x.order(0, 0, 520, 9, 0) + 10 * x.house(1), 26);
  }

  private static void hidden() {
    Orderbook x = new Orderbook();
    int[][] wrong = {{-1, 9, 9, 9, 0}, {2, 9, 9, 9, 0}, {0, 0, 9, 9, 0}, {0, 1000, 9, 9, 0},
        {0, 9, 0, 0, 0}, {0, 9, 501, 9, 0}, {0, 9, 9, 0, 0}, {0, 9, 9, 10, 0}, {0, 9, 9, 9, 6}};
    for (int[] a : wrong) {
      check.fails("3 arguments", ARGUMENT, () -> x.hidden(a[0], a[1], a[2], a[3], a[4]));
    }
    check.is("3 taken", x.hidden(1, 50, 10, 4, 0), 0);
    check.is("3 another one", x.order(0, 1, 50, 4, 1), 1);
    check.is("3 shows a part", x.text(1), "50x8");
    x.order(0, 0, 50, 3, 2);
    check.is("3 part of the part", x.ofOrder(0, 6), 1);
    check.is("3 stays first", x.first(1, 50), 0);
    x.order(0, 0, 50, 2, 2);
    check.is("3 behind with the next part", x.queued(1, 50, 1), 0);
    check.is("3 the next part", x.ofOrder(0, 6), 4);
    check.is("3 the other one lost a piece", x.ofOrder(1, 5), 3);
    x.order(0, 0, 50, 7, 2);
    check.is("3 the last part is smaller", x.ofOrder(0, 6), 2);
    x.order(0, 0, 50, 20, 2);
    check.is("3 done", x.ofOrder(0, 7), 2);
    check.is("3 all traded", x.ofOrder(0, 8), 10);
    check.is("3 shows none", x.ofOrder(0, 6), 0);
    check.is("3 comes and trades first", x.hidden(1, 50, 26, 5, 3), 6);
    check.is("3 then shows a part of the rest", x.text(1), "50x5");
    check.is("3 left", x.ofOrder(6, 5), 8);
  }

  private static void sleepers() {
    Orderbook x = new Orderbook();
    int[][] wrong = {{-1, 9, 9, 9, 0}, {2, 9, 9, 9, 0}, {0, 0, 9, 9, 0}, {0, 1000, 9, 9, 0},
        {0, 9, 0, 9, 0}, {0, 9, 1000, 9, 0}, {0, 9, 9, 0, 0}, {0, 9, 9, 501, 0}, {0, 9, 9, 9, -1}};
    for (int[] a : wrong) {
      check.fails("4 arguments", ARGUMENT, () -> x.sleeper(a[0], a[1], a[2], a[3], a[4]));
    }
    x.sleeper(0, 101, 90, 1, 0);
    x.sleeper(0, 100, 90, 2, 0);
    x.sleeper(1, 99, 200, 3, 0);
    x.sleeper(1, 100, 201, 4, 0);
    check.is("4 they sleep", x.house(7), 4);
    check.is("4 in no queue", x.text(0) + x.text(1), "--");
    x.order(0, 0, 100, 1, 1);
    x.order(0, 1, 100, 1, 2);
    check.is("4 awake ones came", x.text(0) + " " + x.text(1), "90x2 201x4");
    check.is("4 the others sleep on", x.sleepers(0) * 10 + x.sleepers(1), 11);
    check.is("4 the kind stays", x.ofOrder(1, 4), 5);
    check.is("4 the trigger stays", x.ofOrder(1, 9), 100);
    check.is("28 who came", x.trade(0, 5), 1);
  }

  private static void sleepersInTurn() {
    Orderbook x = new Orderbook();
    x.sleeper(0, 150, 300, 1, 0);
    x.sleeper(0, 100, 300, 2, 1);
    x.sleeper(0, 100, 300, 3, 2);
    x.order(0, 1, 100, 1, 3);
    x.order(0, 1, 160, 2, 3);
    x.order(0, 1, 170, 9, 3);
    x.order(0, 0, 100, 1, 4);
    check.is("4 1 wakes 0, which goes ahead of 2", x.tape(0), "1x100 2x160 1x170 3x170");
    check.is("4 who bought third", x.trade(2, 2), 0);
    check.is("28 a sleeper came", x.trade(3, 5), 0);
  }

  private static void sleepersBehindABreak() {
    Orderbook x = new Orderbook();
    x.sleeper(0, 100, 300, 1, 0);
    x.sleeper(1, 50, 60, 1, 0);
    x.order(0, 1, 100, 1, 1);
    x.order(0, 1, 120, 1, 1);
    x.band(100, 10);
    x.order(0, 0, 105, 1, 2);
    check.is("4 the sleeper broke the band", x.house(1) * 10 + x.house(16), 21);
    check.is("4 it ended", x.ofOrder(0, 7), 3);
    check.is("4 the one not awake sleeps", x.ofOrder(1, 7), 1);
    Orderbook y = new Orderbook();
    y.sleeper(0, 100, 300, 1, 0);
    y.sleeper(0, 100, 300, 1, 1);
    y.order(0, 1, 100, 1, 2);
    y.order(0, 1, 120, 1, 2);
    y.band(100, 10);
    y.order(0, 0, 100, 1, 3);
    check.is("4 halted: also the next awake one ended", y.ofOrder(1, 7), 3);
    check.is("4 one break alone", y.house(16), 1);
    check.is("4 none sleeps", y.house(7), 0);
  }

  private static void cancel() {
    Orderbook x = new Orderbook();
    check.fails("5 none", INDEX, () -> x.cancel(0));
    check.fails("5 below", INDEX, () -> x.cancel(-1));
    x.order(0, 0, 10, 7, 0);
    x.sleeper(1, 5, 5, 8, 0);
    x.hidden(0, 10, 9, 2, 0);
    x.order(1, 0, 10, 7, 0);
    check.fails("5 not taken yet", INDEX, () -> x.cancel(4));
    check.fails("5 ended", STATE, () -> x.cancel(3));
    x.order(0, 1, 10, 3, 1);
    check.is("5 left ahead", x.cancel(0), 4);
    check.is("5 of a sleeper", x.cancel(1), 8);
    check.is("5 of a hidden one all", x.cancel(2), 9);
    check.fails("5 twice", STATE, () -> x.cancel(0));
    check.fails("5 done", STATE, () -> x.cancel(4));
    check.is("5 all gone", x.house(6) + x.house(7), 0);
    check.is("5 in halted", x.order(0, 0, 9, 2, 0) + x.halt() + x.cancel(5), 8);
  }

  private static void cancelAll() {
    Orderbook x = new Orderbook();
    check.fails("6 below", ARGUMENT, () -> x.cancelAll(-1));
    check.fails("6 above", ARGUMENT, () -> x.cancelAll(6));
    check.is("6 none", x.cancelAll(0), 0);
    x.order(0, 0, 10, 1, 0);
    x.order(0, 0, 10, 2, 1);
    x.order(0, 0, 10, 3, 0);
    x.order(0, 1, 20, 4, 0);
    x.sleeper(1, 5, 5, 8, 0);
    x.sleeper(1, 5, 5, 8, 1);
    check.is("6 of both sides and asleep", x.cancelAll(0), 4);
    check.is("6 others stay", x.text(0) + x.text(1), "10x2-");
    check.is("6 others sleep", x.sleepers(1), 1);
    check.is("6 they ended", x.house(9), 4);
  }

  private static void less() {
    Orderbook x = new Orderbook();
    x.order(0, 0, 10, 9, 0);
    x.order(0, 0, 10, 9, 1);
    x.hidden(1, 20, 10, 4, 0);
    x.sleeper(1, 5, 5, 8, 0);
    check.fails("7 index first", INDEX, () -> x.less(4, 0));
    check.fails("7 below", INDEX, () -> x.less(-1, 1));
    check.fails("7 no pieces", ARGUMENT, () -> x.less(0, 0));
    check.fails("7 too many", ARGUMENT, () -> x.less(0, 501));
    check.fails("7 all of it", STATE, () -> x.less(0, 9));
    check.is("7 all but one", x.less(0, 8), 1);
    check.is("7 stays first", x.first(0, 10), 0);
    check.is("7 pieces as told", x.ofOrder(0, 2), 9);
    check.is("7 hidden ones first", x.less(2, 6) * 10 + x.ofOrder(2, 6), 44);
    check.is("7 then the part", x.less(2, 1) * 10 + x.ofOrder(2, 6), 33);
    check.is("7 of a sleeper", x.less(3, 3), 5);
    x.cancel(0);
    check.fails("7 ended", STATE, () -> x.less(0, 1));
    check.is("7 nothing of it is traded", x.ofOrder(2, 8), 0);
  }

  private static void change() {
    Orderbook x = new Orderbook();
    x.order(0, 0, 10, 9, 0);
    x.order(0, 0, 10, 8, 1);
    x.sleeper(1, 5, 5, 8, 0);
    check.fails("8 index first", INDEX, () -> x.change(3, 0));
    check.fails("8 price below", ARGUMENT, () -> x.change(0, 0));
    check.fails("8 price above, ahead of state", ARGUMENT, () -> x.change(2, 1000));
    check.fails("8 sleeps", STATE, () -> x.change(2, 5));
    check.is("8 the same price", x.change(0, 10), 9);
    check.is("8 goes behind", x.first(0, 10), 1);
    x.order(3, 1, 20, 5, 2);
    check.is("8 only to wait comes as plain", x.change(3, 10), 0);
    check.is("8 done", x.ofOrder(3, 7), 2);
    check.is("8 kind stays", x.ofOrder(3, 4), 3);
    check.is("8 price is the new one", x.ofOrder(3, 1), 10);
    x.tick(3);
    x.band(9, 3);
    check.is("8 tick", x.change(0, 10), -2);
    check.is("8 band", x.change(0, 15), -3);
    check.is("8 stayed", x.ofOrder(0, 1), 10);
    check.is("8 counted", x.refused(2) * 10 + x.refused(3), 11);
    x.gather();
    x.order(0, 1, 9, 2, 3);
    check.is("8 in gathering it waits", x.change(0, 12), 9);
    check.is("8 the queue of that price", x.text(0), "12x9 10x3");
    x.auction();
    x.halt();
    check.is("8 halted", x.change(0, 9), -1);
    x.resume();
    x.limit(0, 0);
    check.is("8 no limit asked", x.change(0, 9), 7);
    x.band(3, 0);
    x.order(0, 1, 3, 1, 4);
    x.tick(1);
    x.cancelAll(1);
    x.cancelAll(0);
    x.order(0, 0, 3, 2, 5);
    x.order(0, 1, 3, 4, 4);
    x.band(8, 1);
    x.order(0, 0, 8, 2, 5);
    check.is("8 a break ends it", x.house(16), 1);
  }

  private static void changeWakes() {
    Orderbook x = new Orderbook();
    x.order(0, 0, 100, 5, 0);
    x.order(0, 1, 110, 9, 1);
    x.sleeper(1, 105, 100, 3, 2);
    check.is("8 when all of it is over", x.change(1, 100), 4);
    x.sleeper(0, 95, 120, 3, 3);
    x.order(0, 0, 90, 1, 4);
    check.is("8 one trade so far", x.tape(0), "5x100");
    check.is("8 the sleeper came behind it", x.text(1), "100x7");
    check.is("8 a buyer comes by change", x.change(4, 100), 0);
    check.is("8 and wakes one", x.tape(1), "1x100 3x100");
  }
}
