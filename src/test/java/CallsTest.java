/** Promises 5 to 18: the edges of the calls that take back, change and tell the house. */
public final class CallsTest {
  private static final Class<?> ARGUMENT = IllegalArgumentException.class;
  private static final Class<?> STATE = IllegalStateException.class;
  private static final Class<?> INDEX = IndexOutOfBoundsException.class;
  private static final Check check = new Check();

  public static void main(String[] args) {
    cancelOfEachState();
    cancelOfAPart();
    cancelInEachPhase();
    cancelAllOfNone();
    cancelAllOfItsOwn();
    cancelAllInEachPhase();
    lessUpToTheLast();
    lessOfTheGreatest();
    lessOfEachState();
    lessStaysAtItsPlace();
    lessOfHidden();
    lessBesideThePart();
    lessLeavesWhatPartsShow();
    lessOfASleeper();
    lessInEachPhase();
    changeOfEachState();
    changeToTheSame();
    changeOfHidden();
    changeTrades();
    changeReaches();
    changeMeetsItsOwn();
    changeBreaks();
    changeIsMetAgain();
    changeOfASleeper();
    changeOfOnlyToWait();
    changeInGathering();
    changeToTheSameInGathering();
    changeReasonOne();
    passToTheLast();
    passOverTheLast();
    tickIsOfTheNext();
    bandIsOfTheNext();
    limitIsOfTheNext();
    gatherFromBoth();
    phasesLeaveTheRest();
    haltAndResume();
    blanks();
    knocks();
    check.end();
  }

  private static int both(int high, int low) {
    return high * 1000 + low;
  }

  /** 0 waits, 1 sleeps, 2 and 3 are done, 4 has ended. */
  private static Orderbook eachState() {
    Orderbook x = new Orderbook();
    x.order(0, 0, 100, 9, 0);
    x.sleeper(1, 50, 40, 8, 1);
    x.order(0, 1, 200, 7, 2);
    x.order(0, 0, 200, 7, 3);
    x.order(1, 0, 99, 6, 4);
    return x;
  }

  private static void cancelOfEachState() {
    Orderbook x = eachState();
    for (int order = 2; order <= 4; order++) {
      int o = order;
      check.failsUnchanged("5 neither waits nor sleeps, " + order, STATE, x, () -> x.cancel(o));
    }
    check.failsUnchanged("5 no such order", INDEX, x, () -> x.cancel(5));
    check.is("5 sleeps", x.cancel(1), 8);
    check.is("5 waits", x.cancel(0), 9);
    check.is("5 both have ended", both(x.ofOrder(0, 7), x.ofOrder(1, 7)), both(3, 3));
    check.is("5 nobody is there", both(x.house(6), x.house(7)), 0);
    check.failsUnchanged("5 waited before", STATE, x, () -> x.cancel(0));
    check.failsUnchanged("5 slept before", STATE, x, () -> x.cancel(1));
  }

  private static void cancelOfAPart() {
    Orderbook x = new Orderbook();
    x.order(0, 1, 100, 5, 0);
    x.hidden(1, 100, 9, 2, 0);
    x.order(0, 0, 100, 6, 1);
    check.is("5 LEFT, not SHOWN", x.cancel(1), 8);
    check.is("5 what was traded stays", both(x.ofOrder(1, 8), x.account(0, 0)), both(1, -6));
    check.is("5 LEFT is told as 0", both(x.ofOrder(1, 5), x.ofOrder(1, 6)), 0);
    check.is("5 its PIECES stay", x.ofOrder(1, 2), 9);
  }

  private static void cancelInEachPhase() {
    Orderbook x = eachState();
    x.gather();
    check.is("5 gathering", x.cancel(0), 9);
    x.auction();
    x.halt();
    check.is("5 halted", x.cancel(1), 8);
  }

  private static void cancelAllOfNone() {
    Orderbook x = eachState();
    check.is("6 one that has ended", x.cancelAll(4), 0);
    check.is("6 one that is done", x.cancelAll(2), 0);
    check.is("6 nobody's", x.cancelAll(5), 0);
    check.is("6 told", both(x.house(13), x.told(7, true)), both(8, 0));
    check.is("6 the others stay", both(x.house(6), x.house(7)), both(1, 1));
  }

  private static void cancelAllOfItsOwn() {
    Orderbook x = eachState();
    x.order(0, 1, 300, 4, 0);
    x.hidden(0, 90, 4, 1, 0);
    x.sleeper(0, 900, 90, 4, 0);
    check.is("6 waits and sleeps, both sides", x.cancelAll(0), 4);
    check.is("6 one of another owner sleeps", x.ofOrder(1, 7), 1);
    check.is("6 they have ended", both(x.house(9), x.house(6)), both(5, 0));
    check.is("6 nothing is left", both(x.account(0, 3) + x.account(0, 4), x.account(0, 5)), 0);
    check.is("6 none the next time", x.cancelAll(0), 0);
    check.is("6 one that sleeps alone", x.cancelAll(1), 1);
  }

  private static void cancelAllInEachPhase() {
    Orderbook x = eachState();
    x.gather();
    check.is("6 gathering", x.cancelAll(1), 1);
    x.auction();
    x.halt();
    check.is("6 halted", x.cancelAll(0), 1);
  }

  private static void lessUpToTheLast() {
    Orderbook x = eachState();
    check.failsUnchanged("7 all that is left", STATE, x, () -> x.less(0, 9));
    check.failsUnchanged("7 more than is left", STATE, x, () -> x.less(0, 10));
    check.is("7 all but one", x.less(0, 8), 1);
    check.failsUnchanged("7 the last piece", STATE, x, () -> x.less(0, 1));
    check.is("7 it waits", both(x.ofOrder(0, 7), x.ofOrder(0, 5)), 1);
  }

  private static void lessOfTheGreatest() {
    Orderbook x = new Orderbook();
    x.order(0, 0, 100, 500, 0);
    check.failsUnchanged("7 none", ARGUMENT, x, () -> x.less(0, 0));
    check.failsUnchanged("7 501", ARGUMENT, x, () -> x.less(0, 501));
    check.failsUnchanged("7 500 of 500", STATE, x, () -> x.less(0, 500));
    check.is("7 499 of 500", x.less(0, 499), 1);
  }

  private static void lessOfEachState() {
    Orderbook x = eachState();
    for (int order = 2; order <= 4; order++) {
      int o = order;
      check.failsUnchanged("7 neither waits nor sleeps, " + order, STATE, x, () -> x.less(o, 1));
      check.failsUnchanged("7 argument first, " + order, ARGUMENT, x, () -> x.less(o, 0));
    }
    check.failsUnchanged("7 no such order", INDEX, x, () -> x.less(5, 1));
    check.failsUnchanged("7 index first", INDEX, x, () -> x.less(5, 0));
  }

  private static void lessStaysAtItsPlace() {
    Orderbook x = new Orderbook();
    x.order(0, 0, 100, 9, 0);
    x.order(0, 0, 100, 9, 1);
    x.less(0, 3);
    check.is("7 stays first", both(x.ofOrder(0, 10), x.ofOrder(1, 10)), 1);
    check.is("7 SHOWN and LEFT", both(x.level(0, 0, 1), x.level(0, 0, 2)), both(15, 15));
    check.is("7 nothing is traded by it", both(x.ofOrder(0, 8), x.account(0, 0)), 0);
    check.is("7 its PIECES stay", x.ofOrder(0, 2), 9);
    x.order(0, 1, 100, 7, 2);
    check.is("7 trades what is left of it", x.tape(0), "6x100 1x100");
  }

  /** Ten pieces, three of them shown. */
  private static Orderbook tenHidden() {
    Orderbook x = new Orderbook();
    x.hidden(0, 100, 10, 3, 0);
    x.order(0, 0, 100, 1, 1);
    return x;
  }

  private static void lessOfHidden() {
    Orderbook x = tenHidden();
    check.is("7 all that is not shown", both(x.less(0, 7), x.ofOrder(0, 6)), both(3, 3));
    check.is("7 stays first", x.first(0, 100), 0);
    check.is("7 then of the part", both(x.less(0, 1), x.ofOrder(0, 6)), both(2, 2));
    Orderbook y = tenHidden();
    check.is("7 one more than is not shown", both(y.less(0, 8), y.ofOrder(0, 6)), both(2, 2));
    Orderbook z = tenHidden();
    check.is("7 one less than is not shown", both(z.less(0, 6), z.ofOrder(0, 6)), both(4, 3));
    z.order(0, 1, 100, 2, 2);
    check.is("7 of a part of a part", both(z.less(0, 1), z.ofOrder(0, 6)), both(1, 1));
    check.failsUnchanged("7 the last piece", STATE, z, () -> z.less(0, 1));
  }

  /** Fewer than a part has: nothing of what is shown, as long as there is something that is not. */
  private static void lessBesideThePart() {
    Orderbook x = tenHidden();
    check.is("7 two of seven that are not shown", both(x.less(0, 2), x.ofOrder(0, 6)), both(8, 3));
    check.is("7 as many as a part", both(x.less(0, 3), x.ofOrder(0, 6)), both(5, 3));
    check.is("7 the last ones that are not shown", both(x.less(0, 2), x.ofOrder(0, 6)), both(3, 3));
  }

  private static void lessLeavesWhatPartsShow() {
    Orderbook x = tenHidden();
    x.order(0, 1, 100, 2, 2);
    check.is("7 one is shown of its part", both(x.less(0, 2), x.ofOrder(0, 6)), both(6, 1));
    x.order(0, 1, 100, 1, 2);
    check.is("s1 the next part as it was told", both(x.ofOrder(0, 6), x.ofOrder(0, 5)), both(3, 5));
  }

  private static void lessOfASleeper() {
    Orderbook x = eachState();
    check.failsUnchanged("7 all of a sleeper", STATE, x, () -> x.less(1, 8));
    check.is("7 all but one", x.less(1, 7), 1);
    check.is("7 it sleeps", both(x.ofOrder(1, 7), x.account(1, 4)), both(1, 1));
  }

  private static void lessInEachPhase() {
    Orderbook x = eachState();
    x.gather();
    check.is("7 gathering", x.less(0, 1), 8);
    x.auction();
    x.halt();
    check.is("7 halted", x.less(0, 1), 7);
  }

  private static void changeOfEachState() {
    Orderbook x = eachState();
    for (int order = 1; order <= 4; order++) {
      int o = order;
      check.failsUnchanged("8 does not wait, " + order, STATE, x, () -> x.change(o, 100));
      check.failsUnchanged("8 argument first, " + order, ARGUMENT, x, () -> x.change(o, 0));
    }
    check.failsUnchanged("8 no such order", INDEX, x, () -> x.change(5, 100));
    check.failsUnchanged("8 index first", INDEX, x, () -> x.change(5, 0));
    check.is("8 waits", x.change(0, 101), 9);
    x.halt();
    check.failsUnchanged("8 state ahead of a reason", STATE, x, () -> x.change(1, 100));
    check.failsUnchanged("8 argument ahead of a reason", ARGUMENT, x, () -> x.change(0, 1000));
    check.failsUnchanged("8 index ahead of a reason", INDEX, x, () -> x.change(5, 100));
    check.refuses("8 halted", 1, x, () -> x.change(0, 100));
  }

  private static void changeToTheSame() {
    Orderbook x = new Orderbook();
    x.order(0, 0, 100, 9, 0);
    x.order(0, 0, 100, 8, 1);
    check.is("8 the same price", x.change(0, 100), 9);
    check.is("8 at the end of its queue", both(x.queued(0, 100, 0), x.queued(0, 100, 1)), both(1, 0));
    check.is("8 alone as well", both(x.change(1, 100), x.change(1, 100)), both(8, 8));
  }

  private static void changeOfHidden() {
    Orderbook x = new Orderbook();
    x.hidden(1, 100, 9, 4, 0);
    x.order(0, 0, 100, 3, 1);
    check.is("3 what is shown of its part", x.ofOrder(0, 6), 1);
    check.is("8 all that is left", x.change(0, 101), 6);
    check.is("8 a part anew", both(x.ofOrder(0, 6), x.ofOrder(0, 1)), both(4, 101));
    x.less(0, 3);
    check.is("8 a part of less", both(x.change(0, 102), x.ofOrder(0, 6)), both(3, 3));
  }

  private static void changeTrades() {
    Orderbook x = new Orderbook();
    x.order(0, 0, 90, 9, 0);
    x.order(0, 1, 100, 4, 1);
    check.is("8 what is left of it waits", x.change(0, 100), 5);
    check.is("8 traded", x.tape(0) + " " + x.text(0), "4x100 100x5");
    check.is("28 it came", x.trade(0, 5), 0);
    x.order(0, 1, 110, 5, 1);
    check.is("8 done: 0", both(x.change(0, 110), x.ofOrder(0, 7)), 2);
    check.is("8 PIECES and traded", both(x.ofOrder(0, 2), x.ofOrder(0, 8)), both(9, 9));
  }

  private static void changeReaches() {
    Orderbook x = new Orderbook();
    x.order(0, 1, 110, 9, 0);
    x.order(0, 0, 100, 4, 1);
    check.is("8 one above", both(x.change(0, 101), x.house(10)), both(9, 0));
    check.is("8 the same", both(x.change(0, 100), x.house(10)), both(5, 1));
  }

  private static void changeMeetsItsOwn() {
    Orderbook x = new Orderbook();
    x.order(0, 1, 110, 9, 0);
    x.order(0, 0, 100, 4, 0);
    check.is("8 step 3", both(x.change(0, 100), x.account(0, 6)), both(9, 1));
    check.is("8 the one that waits has ended", x.ofOrder(1, 7), 3);
  }

  private static void changeBreaks() {
    Orderbook x = new Orderbook();
    x.order(0, 1, 110, 9, 0);
    x.order(0, 0, 100, 4, 1);
    x.band(90, 9);
    check.is("8 step 2: 0", x.change(0, 95), 0);
    check.is("8 halted", both(x.house(1), x.house(16)), both(2, 1));
    check.is("8 it has ended", x.ofOrder(0, 7), 3);
    check.is("8 told as 0, no reason", both(x.told(3, true), x.refused(1)), 0);
  }

  /** It waits with a rest, and those awake behind it trade with that. */
  private static void changeIsMetAgain() {
    Orderbook x = new Orderbook();
    x.order(0, 1, 110, 9, 0);
    x.order(0, 0, 100, 4, 1);
    x.sleeper(0, 100, 100, 3, 2);
    check.is("8 when all of that is over", x.change(0, 100), 2);
    Orderbook y = new Orderbook();
    y.order(0, 1, 110, 9, 0);
    y.order(0, 0, 100, 4, 1);
    y.sleeper(0, 100, 100, 5, 2);
    check.is("8 done when all of that is over", both(y.change(0, 100), y.ofOrder(0, 7)), 2);
    Orderbook z = new Orderbook();
    z.order(0, 1, 110, 9, 0);
    z.order(0, 0, 100, 4, 1);
    z.sleeper(0, 100, 100, 5, 0);
    check.is("8 ended when all of that is over", both(z.change(0, 100), z.ofOrder(0, 7)), 3);
  }

  private static void changeOfASleeper() {
    Orderbook x = new Orderbook();
    x.sleeper(0, 101, 50, 4, 0);
    x.order(0, 0, 101, 1, 1);
    x.order(0, 1, 101, 1, 2);
    check.is("8 one that slept waits now", x.change(0, 60), 4);
    check.is("8 where it waits", x.text(0), "60x4");
    check.is("21 its kind and its trigger stay", both(x.ofOrder(0, 4), x.ofOrder(0, 9)), both(5, 101));
    x.tick(2);
    check.is("8 its trigger does not matter", x.change(0, 62), 4);
    check.refuses("8 the price does", 2, x, () -> x.change(0, 63));
  }

  private static void changeOfOnlyToWait() {
    Orderbook x = new Orderbook();
    x.order(3, 0, 90, 9, 0);
    x.order(0, 1, 100, 4, 1);
    check.is("8 as a plain one", both(x.change(0, 100), x.house(10)), both(5, 1));
    check.is("8 its kind stays, no reason 7", both(x.ofOrder(0, 4), x.refused(7)), both(3, 0));
  }

  private static void changeInGathering() {
    Orderbook x = new Orderbook();
    x.gather();
    x.order(0, 1, 110, 9, 0);
    x.order(0, 0, 100, 4, 1);
    x.order(0, 1, 90, 4, 2);
    x.hidden(1, 110, 9, 4, 0);
    check.is("8 no trade", both(x.change(0, 90), x.house(10)), both(9, 0));
    check.is("8 at the end of that queue", both(x.first(1, 90), x.queued(1, 90, 1)), both(2, 0));
    check.is("8 a hidden one", both(x.change(3, 90), x.ofOrder(3, 6)), both(9, 4));
    x.tick(2);
    check.refuses("8 reason 2 in gathering", 2, x, () -> x.change(0, 91));
    x.band(100, 3);
    check.refuses("8 reason 3 in gathering", 3, x, () -> x.change(0, 96));
    check.is("8 at the edge", x.change(0, 98), 9);
    check.refuses("8 reason 2 ahead of 3", 2, x, () -> x.change(0, 95));
  }

  private static void changeToTheSameInGathering() {
    Orderbook x = new Orderbook();
    x.gather();
    x.order(0, 0, 100, 9, 0);
    x.order(0, 0, 100, 8, 1);
    check.is("8 the same price in gathering", x.change(0, 100), 9);
    check.is("8 at the end of its queue", both(x.queued(0, 100, 0), x.queued(0, 100, 1)), both(1, 0));
  }

  private static void changeReasonOne() {
    Orderbook x = eachState();
    x.tick(7);
    x.halt();
    check.refuses("8 reason 1 ahead of 2", 1, x, () -> x.change(0, 101));
    x.resume();
    check.is("8 to a tick", x.change(0, 105), 9);
  }

  private static void passToTheLast() {
    Orderbook x = new Orderbook();
    for (int i = 0; i < 101; i++) {
      x.pass(99);
    }
    check.is("9 9999 at most", x.house(0), 9999);
    check.failsUnchanged("9 10000", STATE, x, () -> x.pass(1));
    check.failsUnchanged("9 argument first, 0", ARGUMENT, x, () -> x.pass(0));
    check.failsUnchanged("9 argument first, 100", ARGUMENT, x, () -> x.pass(100));
    x.order(0, 0, 100, 2, 0);
    x.order(0, 1, 100, 2, 1);
    check.is("28 a trade of the last minute", both(x.minute(9999, 1), x.trade(0, 4) - 9000), both(2, 999));
  }

  private static void passOverTheLast() {
    Orderbook x = new Orderbook();
    for (int i = 0; i < 100; i++) {
      x.pass(99);
    }
    check.is("9 9900", x.pass(1), 9901);
    check.failsUnchanged("9 99 more are too many", STATE, x, () -> x.pass(99));
    check.is("9 98 more are not", x.pass(98), 9999);
  }

  private static void tickIsOfTheNext() {
    Orderbook x = new Orderbook();
    x.order(0, 0, 101, 2, 0);
    check.is("10 before", x.tick(10), 1);
    check.is("10 those there stay", x.text(0), "101x2");
    check.is("10 and trade", x.order(0, 1, 100, 2, 1) + x.house(10), 2);
    check.is("10 the same again", x.tick(10), 10);
  }

  private static void bandIsOfTheNext() {
    Orderbook x = new Orderbook();
    x.order(0, 0, 101, 2, 0);
    x.sleeper(0, 300, 101, 2, 0);
    check.is("11 before", x.band(999, 0), 500);
    check.is("11 told", both(x.house(3), x.house(4)), both(999, 0));
    check.is("11 those there stay", both(x.house(6), x.house(7)), both(1, 1));
    check.is("11 before again", x.band(1, 999), 999);
  }

  private static void limitIsOfTheNext() {
    Orderbook x = new Orderbook();
    x.order(0, 0, 101, 2, 0);
    x.sleeper(0, 300, 101, 2, 0);
    check.is("12 before", x.limit(0, 0), 5000);
    check.is("12 those there stay", both(x.house(6), x.house(7)), both(1, 1));
    check.is("12 and trade", x.order(0, 1, 100, 2, 1) + x.house(10), 3);
    check.is("12 of others", x.account(1, 2), 5000);
  }

  private static void gatherFromBoth() {
    Orderbook x = eachState();
    check.is("13 from open", x.gather(), 0);
    check.failsUnchanged("13 not twice", STATE, x, () -> x.gather());
    check.is("13 those there wait and sleep", both(x.house(6), x.house(7)), both(1, 1));
    x.auction();
    x.halt();
    check.is("13 from halted", x.gather(), 2);
    check.failsUnchanged("15 gathering", STATE, x, () -> x.halt());
    check.failsUnchanged("16 gathering", STATE, x, () -> x.resume());
  }

  /** What stands in the house beside the phase, the minute and how many calls were told. */
  private static String houseButPhase(Orderbook x) {
    StringBuilder out = new StringBuilder(x.text(0) + " " + x.text(1));
    for (int what = 2; what <= 16; what++) {
      out.append(' ').append(what == 13 ? 0 : x.house(what));
    }
    for (int owner = 0; owner <= 5; owner++) {
      out.append(' ').append(x.account(owner, 2)).append(' ').append(x.account(owner, 5));
    }
    return out.toString();
  }

  private static void phasesLeaveTheRest() {
    Orderbook x = eachState();
    x.tick(7);
    x.band(321, 12);
    x.limit(0, 3);
    String before = houseButPhase(x);
    x.halt();
    check.is("15 the rest stays", houseButPhase(x), before);
    x.pass(99);
    check.is("9 the phase stays halted", x.house(1) + " " + houseButPhase(x), "2 " + before);
    x.resume();
    check.is("16 the rest stays", houseButPhase(x), before);
    x.pass(1);
    check.is("9 the phase stays open", x.house(1) + " " + houseButPhase(x), "0 " + before);
    x.gather();
    check.is("13 the rest stays", houseButPhase(x), before);
    x.pass(50);
    check.is("9 the phase stays gathering", x.house(1) + " " + houseButPhase(x), "1 " + before);
    x.auction();
    check.is("14 without a price the rest stays", houseButPhase(x), before);
  }

  private static void haltAndResume() {
    Orderbook x = new Orderbook();
    check.failsUnchanged("16 open", STATE, x, () -> x.resume());
    check.failsUnchanged("14 open", STATE, x, () -> x.auction());
    check.is("15 nobody waits", x.halt(), 0);
    check.failsUnchanged("15 not twice", STATE, x, () -> x.halt());
    check.failsUnchanged("14 halted", STATE, x, () -> x.auction());
    check.is("16 nobody waits", x.resume(), 0);
    check.failsUnchanged("16 not twice", STATE, x, () -> x.resume());
    x.order(0, 0, 101, 2, 0);
    x.order(0, 1, 102, 2, 0);
    x.sleeper(0, 300, 101, 2, 0);
    check.is("15 who sleeps waits not", x.halt(), 2);
    check.is("16 who sleeps waits not", x.resume(), 2);
    x.halt();
    x.cancel(0);
    check.is("16 one fewer", x.resume(), 1);
    check.is("32 no order made it halt", x.house(16), 0);
  }

  private static void blanks() {
    Orderbook x = new Orderbook();
    for (int i = 1; i <= 3; i++) {
      check.is("17 none", x.blank(), -9);
      check.is("17 counted", x.house(14), i);
    }
    check.is("17 not knocked, not told", both(x.house(15), x.house(13)), 0);
    x.halt();
    check.is("17 in each phase", x.blank(), -9);
  }

  private static void knocks() {
    Orderbook x = new Orderbook();
    for (int i = 1; i <= 3; i++) {
      check.is("18 how often ever", x.knock(), i);
      check.is("18 counted", x.house(15), i);
    }
    check.is("18 no -9, not told", both(x.house(14), x.house(13)), 0);
    x.halt();
    check.is("18 in each phase", x.knock(), 4);
  }
}
