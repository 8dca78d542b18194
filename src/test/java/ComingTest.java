/** Section 2: how an order comes, step by step, on both sides of what each step looks at. */
public final class ComingTest {
  private static final Check check = new Check();

  public static void main(String[] args) {
    nobodyThere();
    reachedByBuy();
    reachedBySell();
    bestPriceFirst();
    queueInTurn();
    bandAgainstBuy();
    bandAgainstSell();
    bandOnlyOfWhatIsReached();
    bandBehindTrades();
    bandAheadOfTheOwner();
    ownOneEnds();
    ownOnesAlone();
    ownOneNotLookedAt();
    ownHiddenOne();
    ownOnesOfEachKind();
    ownSleeperStays();
    fewerThanShown();
    asManyAsShown();
    moreThanShown();
    partOfAPart();
    partOfTheLastOnes();
    wholePart();
    nextPartAsMuchAsLeft();
    nextPartIsLess();
    partsAlone();
    partAsItGoesIn();
    partOfWhatIsLeft();
    hiddenBehindOthers();
    hiddenComesWhole();
    rests();
    atOnceExactly();
    leftIsToldAsNothing();
    endOfTheQueue();
    check.end();
  }

  private static int both(int high, int low) {
    return high * 1000 + low;
  }

  private static void nobodyThere() {
    Orderbook x = new Orderbook();
    x.order(0, 0, 999, 5, 0);
    check.is("s2 nobody there: it waits", x.text(0), "999x5");
    check.is("s2 no trade", x.house(10), 0);
  }

  private static void reachedByBuy() {
    Orderbook x = new Orderbook();
    x.order(0, 1, 100, 9, 1);
    x.order(0, 0, 99, 1, 0);
    check.is("step 1: below", x.tape(0), "-");
    x.order(0, 0, 100, 2, 0);
    check.is("step 1: the same", x.tape(0), "2x100");
    x.order(0, 0, 101, 3, 0);
    check.is("step 1: above, at the price there", x.tape(1), "3x100");
    check.is("step 1: what waits", x.text(0) + " " + x.text(1), "99x1 100x4");
  }

  private static void reachedBySell() {
    Orderbook x = new Orderbook();
    x.order(0, 0, 100, 9, 1);
    x.order(0, 1, 101, 1, 0);
    check.is("step 1: above", x.tape(0), "-");
    x.order(0, 1, 100, 2, 0);
    check.is("step 1: the same", x.tape(0), "2x100");
    x.order(0, 1, 99, 3, 0);
    check.is("step 1: below, at the price there", x.tape(1), "3x100");
    check.is("step 1: what waits", x.text(0) + " " + x.text(1), "100x4 101x1");
  }

  private static void bestPriceFirst() {
    Orderbook x = new Orderbook();
    x.order(0, 0, 98, 1, 1);
    x.order(0, 0, 100, 1, 1);
    x.order(0, 0, 99, 1, 1);
    x.order(0, 1, 99, 5, 0);
    check.is("s1 the greatest bid first, over at 98", x.tape(0), "1x100 1x99");
    check.is("s2 the rest waits", x.text(0) + " " + x.text(1), "98x1 99x3");
  }

  private static void queueInTurn() {
    Orderbook x = new Orderbook();
    x.order(0, 1, 100, 1, 1);
    x.order(0, 1, 100, 1, 2);
    x.order(0, 1, 100, 1, 3);
    x.order(0, 0, 100, 2, 0);
    check.is("s2 by coming", both(x.trade(0, 3), x.trade(1, 3)), both(0, 1));
    check.is("s2 the last one waits", x.first(1, 100), 2);
  }

  private static void bandAgainstBuy() {
    Orderbook x = new Orderbook();
    x.order(0, 1, 100, 9, 1);
    x.band(110, 10);
    x.order(0, 0, 100, 1, 0);
    check.is("step 2: at the edge", x.tape(0) + " " + x.house(1), "1x100 0");
    x.band(111, 10);
    check.is("step 2: taken", x.order(0, 0, 101, 1, 0), 2);
    check.is("step 2: one more halts", both(x.house(1), x.house(16)), both(2, 1));
    check.is("step 2: it has ended", x.ofOrder(2, 7), 3);
    check.is("step 2: no trade", x.house(10), 1);
    check.is("step 2: the other one waits", x.text(1), "100x8");
  }

  private static void bandAgainstSell() {
    Orderbook x = new Orderbook();
    x.order(0, 0, 100, 9, 1);
    x.band(90, 10);
    x.order(0, 1, 100, 1, 0);
    check.is("step 2: at the edge", x.tape(0) + " " + x.house(1), "1x100 0");
    x.band(89, 10);
    check.is("step 2: taken", x.order(1, 1, 99, 1, 0), 2);
    check.is("step 2: one more halts", both(x.house(1), x.house(16)), both(2, 1));
    check.is("step 2: it has ended", x.ofOrder(2, 7), 3);
    check.is("step 2: the other one waits", x.text(0), "100x8");
  }

  /** Step 1 ahead of step 2. */
  private static void bandOnlyOfWhatIsReached() {
    Orderbook x = new Orderbook();
    x.order(0, 1, 200, 9, 1);
    x.band(100, 10);
    x.order(0, 0, 110, 1, 0);
    check.is("step 1: off the band, but not reached", both(x.house(1), x.house(16)), 0);
    check.is("step 1: it waits", x.text(0), "110x1");
  }

  private static void bandBehindTrades() {
    Orderbook x = new Orderbook();
    x.order(0, 0, 105, 2, 1);
    x.order(0, 0, 100, 2, 1);
    x.sleeper(1, 105, 100, 3, 2);
    x.band(100, 4);
    x.order(0, 1, 104, 1, 3);
    check.is("step 2: first of all", both(x.house(1), x.house(10)), both(2, 0));
    Orderbook y = new Orderbook();
    y.order(0, 0, 105, 2, 1);
    y.order(0, 0, 100, 2, 1);
    y.band(105, 4);
    y.sleeper(1, 105, 101, 3, 2);
    y.sleeper(1, 104, 101, 3, 2);
    y.change(1, 101);
    y.band(105, 3);
    y.order(1, 1, 102, 1, 3);
    check.is("step 2: the sleeper trades, then halts", y.tape(0), "1x105 1x105");
    check.is("step 2: it has ended with what it traded", both(y.ofOrder(2, 7), y.ofOrder(2, 8)), both(3, 1));
    check.is("step 2: what is left is told as 0", y.ofOrder(2, 5), 0);
    check.is("step 2: halted once", both(y.house(1), y.house(16)), both(2, 1));
    check.is("s3 who is not awake sleeps", y.ofOrder(3, 7), 1);
  }

  /** Step 2 ahead of step 3. */
  private static void bandAheadOfTheOwner() {
    Orderbook x = new Orderbook();
    x.order(0, 1, 100, 2, 0);
    x.band(110, 9);
    x.order(0, 0, 105, 2, 0);
    check.is("step 2: also before its own", x.house(1), 2);
    check.is("step 2: its own waits", both(x.ofOrder(0, 7), x.account(0, 6)), 0);
  }

  private static void ownOneEnds() {
    Orderbook x = new Orderbook();
    x.order(0, 1, 100, 9, 0);
    x.order(0, 1, 100, 2, 1);
    x.order(0, 0, 100, 3, 0);
    check.is("step 3: the one that waits has ended", both(x.ofOrder(0, 7), x.ofOrder(0, 5)), both(3, 0));
    check.is("step 3: the one that came goes on", x.tape(0), "2x100");
    check.is("step 3: and waits", x.text(0) + " " + x.text(1), "100x1 -");
    check.is("step 3: counted of that owner", both(x.account(0, 6), x.account(1, 6)), both(1, 0));
    check.is("step 3: no money, no position", both(x.account(0, 0), -x.account(0, 1)), both(2, 200));
  }

  private static void ownOnesAlone() {
    Orderbook x = new Orderbook();
    x.order(0, 0, 101, 1, 4);
    x.order(0, 0, 100, 1, 4);
    x.order(1, 1, 100, 9, 4);
    check.is("step 3: each of them", both(x.account(4, 6), x.house(9)), both(2, 3));
    check.is("step 3: no trade", x.house(10), 0);
    check.is("step 3: nobody waits", x.house(6), 0);
  }

  private static void ownOneNotLookedAt() {
    Orderbook x = new Orderbook();
    x.order(0, 1, 100, 2, 1);
    x.order(0, 1, 100, 9, 0);
    x.order(0, 0, 100, 2, 0);
    check.is("s2 nothing is left to look further", x.text(1), "100x9");
    x.order(0, 0, 99, 2, 0);
    check.is("step 1 ahead of step 3", both(x.ofOrder(1, 7), x.account(0, 6)), 0);
  }

  private static void ownHiddenOne() {
    Orderbook x = new Orderbook();
    x.hidden(1, 100, 9, 2, 0);
    x.order(0, 0, 100, 1, 0);
    check.is("step 3: all of it", x.text(1), "-");
    check.is("step 3: nothing is left of it", both(x.ofOrder(0, 5), x.ofOrder(0, 6)), 0);
    check.is("step 3: once", x.account(0, 6), 1);
  }

  /** Whatever comes: its own one that waits ahead of another's ends, and it is counted once. */
  private static void ownOnesOfEachKind() {
    for (int kind = 0; kind <= 5; kind++) {
      Orderbook x = new Orderbook();
      x.order(0, 1, 100, 3, 0);
      x.order(0, 1, 100, 1, 1);
      comeAtHundred(x, kind);
      check.is("step 3: by kind " + kind, both(x.ofOrder(0, 7), x.account(0, 6)), both(3, 1));
      check.is("step 4: by kind " + kind, both(x.ofOrder(1, 7), x.ofOrder(2, 8)), both(2, 1));
    }
  }

  /** Order 2, one piece of owner 0; only to wait comes by a change, a sleeper by a trade of others. */
  private static void comeAtHundred(Orderbook x, int kind) {
    if (kind == 3) {
      x.order(3, 0, 90, 1, 0);
      x.change(2, 100);
    } else if (kind == 4) {
      x.hidden(0, 100, 1, 1, 0);
    } else if (kind == 5) {
      x.sleeper(0, 99, 100, 1, 0);
      x.order(0, 1, 99, 1, 2);
      x.order(0, 0, 99, 1, 3);
    } else {
      x.order(kind, 0, 100, 1, 0);
    }
  }

  private static void ownSleeperStays() {
    Orderbook x = new Orderbook();
    x.sleeper(1, 1, 100, 5, 0);
    x.order(0, 1, 100, 5, 0);
    x.order(0, 0, 100, 5, 0);
    check.is("step 3: who sleeps stays", both(x.ofOrder(0, 7), x.ofOrder(1, 7)), both(1, 3));
  }

  private static void fewerThanShown() {
    Orderbook x = new Orderbook();
    x.order(0, 1, 100, 5, 1);
    x.order(0, 0, 100, 4, 0);
    check.is("step 4: LEFT of the one that came", x.tape(0), "4x100");
    check.is("step 4: done", x.ofOrder(1, 7), 2);
    check.is("step 4: the other one waits", both(x.ofOrder(0, 7), x.ofOrder(0, 5)), 1);
  }

  private static void asManyAsShown() {
    Orderbook x = new Orderbook();
    x.order(0, 1, 100, 5, 1);
    x.order(0, 0, 100, 5, 0);
    check.is("step 4: both", x.tape(0), "5x100");
    check.is("step 4: both are done", both(x.ofOrder(0, 7), x.ofOrder(1, 7)), both(2, 2));
    check.is("step 4: nobody waits", x.house(6), 0);
  }

  private static void moreThanShown() {
    Orderbook x = new Orderbook();
    x.order(0, 1, 100, 5, 1);
    x.order(0, 0, 100, 6, 0);
    check.is("step 4: SHOWN of the other one", x.tape(0), "5x100");
    check.is("step 4: the other one is done", x.ofOrder(0, 7), 2);
    check.is("step 4: the one that came waits", both(x.ofOrder(1, 7), x.ofOrder(1, 5)), 1);
  }

  private static void partOfAPart() {
    Orderbook x = new Orderbook();
    x.hidden(1, 100, 9, 3, 1);
    x.order(0, 1, 100, 9, 2);
    x.order(0, 0, 100, 2, 0);
    check.is("step 4: a part that is not traded stays", x.first(1, 100), 0);
    check.is("step 4: with what is shown of it", both(x.ofOrder(0, 6), x.ofOrder(0, 5)), both(1, 7));
  }

  /** Fewer are left than were traded of the part: it stays at its place all the same. */
  private static void partOfTheLastOnes() {
    Orderbook x = new Orderbook();
    x.hidden(1, 100, 5, 4, 1);
    x.order(0, 1, 100, 9, 2);
    x.order(0, 0, 100, 3, 0);
    check.is("step 4: the rest of the part stays", x.first(1, 100), 0);
    check.is("step 4: with what is shown of it", both(x.ofOrder(0, 6), x.ofOrder(0, 5)), both(1, 2));
  }

  private static void wholePart() {
    Orderbook x = new Orderbook();
    x.hidden(1, 100, 9, 3, 1);
    x.order(0, 1, 100, 9, 2);
    x.order(0, 0, 100, 3, 0);
    check.is("step 4: behind the other one", both(x.queued(1, 100, 0), x.queued(1, 100, 1)), both(1, 0));
    check.is("step 4: with the next part", both(x.ofOrder(0, 6), x.ofOrder(0, 5)), both(3, 6));
  }

  private static void nextPartAsMuchAsLeft() {
    Orderbook x = new Orderbook();
    x.hidden(1, 100, 6, 3, 1);
    x.order(0, 0, 100, 3, 0);
    check.is("s1 the last part is whole", both(x.ofOrder(0, 6), x.ofOrder(0, 5)), both(3, 3));
    x.order(0, 0, 100, 3, 0);
    check.is("step 4: done with it", both(x.ofOrder(0, 7), x.house(6)), both(2, 0));
  }

  private static void nextPartIsLess() {
    Orderbook x = new Orderbook();
    x.hidden(1, 100, 5, 3, 1);
    x.order(0, 0, 100, 3, 0);
    check.is("s1 the last part is less", both(x.ofOrder(0, 6), x.ofOrder(0, 5)), both(2, 2));
    x.order(0, 0, 100, 3, 0);
    check.is("step 4: no more than that", x.tape(0) + " " + x.text(0), "3x100 2x100 100x1");
  }

  private static void partsAlone() {
    Orderbook x = new Orderbook();
    x.hidden(0, 100, 7, 3, 1);
    x.order(0, 1, 100, 7, 0);
    check.is("step 4: part by part", x.tape(0), "3x100 3x100 1x100");
    check.is("step 4: both are done", both(x.ofOrder(0, 7), x.ofOrder(1, 7)), both(2, 2));
  }

  private static void partAsItGoesIn() {
    Orderbook x = new Orderbook();
    x.hidden(0, 100, 7, 7, 1);
    x.hidden(0, 99, 7, 6, 1);
    x.hidden(0, 98, 1, 1, 1);
    check.is("s1 as many as told, or all", x.text(0), "100x7 99x6 98x1");
  }

  private static void partOfWhatIsLeft() {
    Orderbook x = new Orderbook();
    x.order(0, 1, 100, 6, 1);
    x.hidden(0, 100, 9, 4, 0);
    check.is("s1 LEFT is less than told", both(x.ofOrder(1, 6), x.ofOrder(1, 5)), both(3, 3));
    Orderbook y = new Orderbook();
    y.order(0, 1, 100, 5, 1);
    y.hidden(0, 100, 9, 4, 0);
    check.is("s1 LEFT is as told", both(y.ofOrder(1, 6), y.ofOrder(1, 5)), both(4, 4));
    Orderbook z = new Orderbook();
    z.order(0, 1, 100, 4, 1);
    z.hidden(0, 100, 9, 4, 0);
    check.is("s1 LEFT is more than told", both(z.ofOrder(1, 6), z.ofOrder(1, 5)), both(4, 5));
  }

  private static void hiddenBehindOthers() {
    Orderbook x = new Orderbook();
    x.hidden(1, 100, 6, 2, 1);
    x.hidden(1, 100, 6, 3, 2);
    x.order(0, 0, 100, 10, 0);
    check.is("step 4: in turns", x.tape(0), "2x100 3x100 2x100 3x100");
    check.is("step 4: one is done, one goes on", both(x.ofOrder(1, 7), x.ofOrder(0, 5)), both(2, 2));
  }

  /** What comes trades with all that is left of it, shown or not. */
  private static void hiddenComesWhole() {
    Orderbook x = new Orderbook();
    x.order(0, 1, 100, 9, 1);
    x.hidden(0, 100, 5, 2, 0);
    check.is("step 4: LEFT of a hidden one that came", x.tape(0), "5x100");
    check.is("step 4: it is done", both(x.ofOrder(1, 7), x.ofOrder(0, 5)), both(2, 4));
    x.hidden(0, 90, 3, 2, 0);
    check.is("8 also by change", both(x.change(2, 100), x.ofOrder(2, 7)), 2);
    check.is("step 4: in one trade", x.tape(1), "3x100");
  }

  private static void rests() {
    int[] state = {0, 3, -1, 0};
    for (int kind : new int[] {0, 1, 3}) {
      Orderbook x = new Orderbook();
      x.order(0, 1, 101, 1, 1);
      x.order(kind, 0, 100, 2, 0);
      check.is("s2 nothing reached, kind " + kind, x.ofOrder(1, 7), state[kind]);
    }
    Orderbook x = new Orderbook();
    x.order(0, 1, 100, 1, 1);
    x.hidden(0, 100, 3, 1, 0);
    check.is("s2 of a hidden one what is left waits", both(x.ofOrder(1, 7), x.ofOrder(1, 5)), 2);
    Orderbook y = new Orderbook();
    y.order(0, 1, 100, 1, 1);
    y.order(1, 0, 100, 3, 0);
    check.is("s2 at once, what is left has ended", both(y.ofOrder(1, 7), y.ofOrder(1, 5)), both(3, 0));
    check.is("s2 it traded", y.ofOrder(1, 8), 1);
  }

  private static void atOnceExactly() {
    Orderbook x = new Orderbook();
    x.order(0, 1, 100, 3, 1);
    x.order(1, 0, 100, 3, 0);
    check.is("s2 at once, nothing is left: done", x.ofOrder(1, 7), 2);
    check.is("32 done, not ended", both(x.house(8), x.house(9)), both(2, 0));
  }

  private static void leftIsToldAsNothing() {
    Orderbook x = new Orderbook();
    x.order(0, 1, 100, 3, 1);
    x.order(0, 0, 100, 3, 0);
    x.hidden(1, 200, 3, 1, 1);
    x.cancel(2);
    x.order(1, 0, 100, 3, 0);
    for (int order = 0; order <= 3; order++) {
      check.is("s1 LEFT of " + order, x.ofOrder(order, 5), 0);
      check.is("21 SHOWN of " + order, x.ofOrder(order, 6), 0);
      check.is("21 ahead of " + order, x.ofOrder(order, 10), -1);
      check.is("21 PIECES of " + order, x.ofOrder(order, 2), 3);
    }
  }

  private static void endOfTheQueue() {
    Orderbook x = new Orderbook();
    x.order(0, 0, 100, 1, 0);
    x.order(0, 0, 101, 1, 0);
    x.order(0, 0, 100, 1, 0);
    x.order(0, 0, 99, 1, 0);
    x.order(0, 0, 100, 1, 0);
    check.is("s1 first", x.queued(0, 100, 0), 0);
    check.is("s1 next", x.queued(0, 100, 1), 2);
    check.is("s1 at the end", x.queued(0, 100, 2), 4);
    check.is("s1 none behind", x.queued(0, 100, 3), -1);
    check.is("s1 in their own queues", both(x.first(0, 101), x.first(0, 99)), both(1, 3));
  }
}
