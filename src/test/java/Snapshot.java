/** All that can be asked of a book, in one text; asking it here counts nothing. */
final class Snapshot {
  private final StringBuilder out = new StringBuilder();
  private final Orderbook x;

  private Snapshot(Orderbook x) {
    this.x = x;
  }

  static String of(Orderbook x) {
    Snapshot all = new Snapshot(x);
    all.addBook();
    all.addTold();
    all.add("digest", x.digest());
    return all.out.toString();
  }

  /** Without what a call that is refused for a reason changes: what was told, and the counts. */
  static String ofBook(Orderbook x) {
    Snapshot book = new Snapshot(x);
    book.addBook();
    return book.out.toString();
  }

  /** How often each reason was told, by its number. */
  static int[] refusals(Orderbook x) {
    int[] counts = new int[9];
    for (int reason = 1; reason <= 8; reason++) {
      counts[reason] = x.refused(reason);
    }
    return counts;
  }

  private void add(String name, Object value) {
    out.append(name).append(' ').append(value).append('\n');
  }

  private void addBook() {
    for (int what = 0; what <= 16; what++) {
      if (what != 13) {
        add("house " + what, x.house(what));
      }
    }
    for (int side = 0; side <= 1; side++) {
      add("text", x.text(side));
      add("sleepers", x.sleepers(side));
      for (int nth = 0; x.level(side, nth, 0) > 0; nth++) {
        for (int in = 0; x.queued(side, x.level(side, nth, 0), in) >= 0; in++) {
          add("queued", x.queued(side, x.level(side, nth, 0), in));
        }
      }
    }
    for (int order = 0; order < x.house(5); order++) {
      for (int what = 0; what <= 10; what++) {
        add("order " + order, x.ofOrder(order, what));
      }
    }
    for (int nth = 0; nth < x.house(10); nth++) {
      for (int what = 0; what <= 5; what++) {
        add("trade " + nth, x.trade(nth, what));
      }
    }
    for (int owner = 0; owner < 6; owner++) {
      for (int what = 0; what <= 6; what++) {
        add("account " + owner, x.account(owner, what));
      }
    }
  }

  private void addTold() {
    for (int reason = 1; reason <= 8; reason++) {
      add("refused " + reason, x.refused(reason));
    }
    for (int nth = 0; nth < x.house(13); nth++) {
      add("told " + x.told(nth, false), x.told(nth, true));
    }
  }
}
