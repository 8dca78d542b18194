import java.lang.reflect.Array;
import java.lang.reflect.Field;
import java.lang.reflect.Method;
import java.util.List;

/** Promise 38 from within: no run of calls makes a book that is not sound, so its fields are put wrong. */
public final class SoundTest {
  private static final Check check = new Check();

  private interface Harm {
    void doTo(Object live) throws ReflectiveOperationException;
  }

  public static void main(String[] args) throws ReflectiveOperationException {
    unsound("a crossed book", live -> {
      set(order(live, 0), "price", 200);
      set(order(live, 0), "rank", -200);
    });
    unsound("positions that are not even", live -> addTo(live, "positions"));
    unsound("money that is not even", live -> addTo(live, "moneys"));
    unsound("one that does not wait in a queue", live -> set(order(live, 0), "state", 1));
    unsound("one of the other side in a queue", live -> set(order(live, 4), "side", 0));
    unsound("a price that is not that of its queue", live -> set(order(live, 4), "price", 150));
    unsound("a queue out of order", live -> {
      set(order(live, 0), "price", 80);
      set(order(live, 0), "rank", -80);
      set(order(live, 1), "price", 100);
      set(order(live, 1), "rank", -100);
    });
    unsound("traded pieces that are not on the tape", live -> set(order(live, 3), "traded", 4));
    unsound("a phase that is not replayed", live -> set(live, "phase", 2));
    unsound("a break that is not replayed", live -> set(live, "breaks", 1));
    unsound("a minute that is not replayed", live -> set(live, "minute", 3));
    unsound("a text that is not replayed", live -> set(order(live, 6), "left", 8));
    unsound("a level that is not replayed", live -> {
      set(order(live, 5), "price", 117);
      set(order(live, 5), "rank", 117);
    });
    unsound("a bid that is not replayed", live -> {
      set(order(live, 1), "price", 91);
      set(order(live, 1), "rank", -91);
    });
    unsound("a part that is not replayed", live -> set(order(live, 8), "part", 3));
    unsound("an account that is not replayed", live -> set(order(live, 7), "left", 5));
    unsound("a limit that is not replayed", live -> addTo(live, "limits"));
    unsound("a clash that is not replayed", live -> addTo(live, "clashes"));
    for (int owner = 0; owner < 5; owner++) {
      int o = owner;
      evenButNotReplayed(owner);
      unsound("a limit that is not replayed, " + owner, live -> addTo(live, "limits", o, -1));
      unsound("a clash that is not replayed, " + owner, live -> addTo(live, "clashes", o, 1));
    }
    crossed();
    notEven();
    queues();
    tradedPieces();
    crowd();
    check.end();
  }

  private static void evenButNotReplayed(int owner) throws ReflectiveOperationException {
    for (String row : new String[] {"positions", "moneys"}) {
      unsound(row + " that are even, but not replayed, " + owner, live -> {
        addTo(live, row, owner, 1);
        addTo(live, row, owner + 1, -1);
      });
    }
  }

  private static void crossed() throws ReflectiveOperationException {
    replayed("the best bid below the best ask", true, book -> setPrice(book, 0, 109));
    replayed("the best bid at the best ask", false, book -> setPrice(book, 0, 110));
    replayed("the best bid above the best ask", false, book -> setPrice(book, 0, 111));
    for (int phase = 0; phase <= 2; phase++) {
      int p = phase;
      replayed("crossed in the phase " + phase, phase == 1, book -> {
        setPrice(book, 0, 111);
        set(book, "phase", p);
      });
    }
  }

  private static void notEven() throws ReflectiveOperationException {
    for (int owner = 0; owner < 6; owner++) {
      int o = owner;
      replayed("a position too many, " + owner, false, book -> addTo(book, "positions", o, 1));
      replayed("a money too little, " + owner, false, book -> addTo(book, "moneys", o, -1));
      replayed("a position and a money", false, book -> {
        addTo(book, "positions", o, 1);
        addTo(book, "moneys", o, -1);
      });
      replayed("even ones, " + owner, true, book -> {
        addTo(book, "positions", o, 7);
        addTo(book, "positions", (o + 1) % 6, -7);
        addTo(book, "moneys", o, -9);
        addTo(book, "moneys", (o + 2) % 6, 9);
      });
    }
  }

  private static void queues() throws ReflectiveOperationException {
    for (int state = 1; state <= 3; state++) {
      int s = state;
      replayed("in a queue of buy in the state " + state, false, book -> set(order(book, 0), "state", s));
      replayed("in a queue of sell in the state " + state, false, book -> set(order(book, 6), "state", s));
    }
    replayed("of sell in a queue of buy", false, book -> set(order(book, 1), "side", 1));
    replayed("of buy in a queue of sell", false, book -> set(order(book, 4), "side", 0));
    replayed("of another price in a queue", false, book -> set(order(book, 6), "price", 121));
    replayed("the worse bid first", false, book -> {
      setPrice(book, 0, 80);
      setPrice(book, 1, 81);
    });
    replayed("the worse ask first", false, book -> {
      setPrice(book, 5, 118);
      setPrice(book, 6, 117);
    });
    replayed("all in one queue", true, book -> {
      setPrice(book, 5, 115);
      setPrice(book, 6, 115);
    });
  }

  private static void tradedPieces() throws ReflectiveOperationException {
    for (int number = 0; number <= 8; number++) {
      int n = number;
      replayed("one more traded than on the tape, " + number, false,
          book -> set(order(book, n), "traded", n == 2 || n == 3 ? 4 : 1));
    }
    replayed("as many traded as on the tape", true, book -> set(order(book, 2), "traded", 3));
  }

  /** Orders 0 and 1 are done, 30 wait and 30 sleep; then one that was done stands there again. */
  private static void crowd() throws ReflectiveOperationException {
    for (int cancelled = 0; cancelled <= 1; cancelled++) {
      for (String line : new String[] {"buys", "sells", "asleep"}) {
        Orderbook x = new Orderbook();
        x.order(0, 0, 100, 1, 0);
        x.order(0, 1, 100, 1, 1);
        for (int i = 0; i < 30; i++) {
          x.order(0, i % 2, 50 + 200 * (i % 2), 1, 0);
          x.sleeper(i % 2, 900 - 880 * (i % 2), 50, 1, 0);
        }
        if (cancelled == 1) {
          x.cancel(40);
        }
        check.is("38 sixty at most", x.isSound(), true);
        for (String book : new String[] {"live", "replay"}) {
          again(get(x, book), line);
        }
        check.is("38 sixty, or one more, " + line, x.isSound(), cancelled == 1);
      }
    }
  }

  private static void again(Object book, String line) throws ReflectiveOperationException {
    Object order = order(book, line.equals("sells") ? 1 : 0);
    set(order, "state", line.equals("asleep") ? 1 : 0);
    set(order, "left", 1);
    set(order, "rank", line.equals("sells") ? 100 : line.equals("buys") ? -100 : 0);
    Object row = get(book, line);
    Method join = row.getClass().getDeclaredMethod("join", order.getClass());
    join.setAccessible(true);
    join.invoke(row, order);
  }

  /** BUY 100: 0; 90: 1. Traded: 2 with 3. SELL 110: 4; 115: 5; 120: 6 and 8, hidden. Asleep: 7. */
  private static Orderbook sample() {
    Orderbook x = new Orderbook();
    x.order(0, 0, 100, 5, 0);
    x.order(0, 0, 90, 5, 0);
    x.order(0, 1, 105, 3, 1);
    x.order(0, 0, 105, 3, 2);
    x.order(0, 1, 110, 5, 1);
    x.order(0, 1, 115, 5, 1);
    x.order(0, 1, 120, 5, 1);
    x.sleeper(0, 300, 310, 6, 5);
    x.hidden(1, 120, 9, 4, 5);
    return x;
  }

  /** The replay is put wrong in the same way, so that only what a book tells of itself can show it. */
  private static void replayed(String name, boolean due, Harm harm) throws ReflectiveOperationException {
    Orderbook x = sample();
    check.is("38 sound ahead of " + name, x.isSound(), true);
    harm.doTo(get(x, "live"));
    harm.doTo(get(x, "replay"));
    check.is("38 " + name, x.isSound(), due);
  }

  private static void unsound(String name, Harm harm) throws ReflectiveOperationException {
    Orderbook x = sample();
    check.is("38 sound ahead of " + name, x.isSound(), true);
    long digest = x.digest();
    harm.doTo(get(x, "live"));
    check.is("38 " + name, x.isSound(), false);
    check.is("39 tells of " + name, x.digest() == DigestByFace.of(x) && x.digest() != digest, true);
  }

  private static Field field(Object of, String name) throws ReflectiveOperationException {
    Field field = of.getClass().getDeclaredField(name);
    field.setAccessible(true);
    return field;
  }

  private static Object get(Object of, String name) throws ReflectiveOperationException {
    return field(of, name).get(of);
  }

  private static void set(Object of, String name, int value) throws ReflectiveOperationException {
    field(of, name).setInt(of, value);
  }

  private static Object order(Object live, int number) throws ReflectiveOperationException {
    return ((List<?>) get(live, "orders")).get(number);
  }

  private static void setPrice(Object book, int number, int price) throws ReflectiveOperationException {
    set(order(book, number), "price", price);
    set(order(book, number), "rank", number < 2 ? -price : price);
  }

  private static void addTo(Object live, String row) throws ReflectiveOperationException {
    addTo(live, row, 5, 1);
  }

  private static void addTo(Object book, String row, int owner, int many) throws ReflectiveOperationException {
    Object cells = get(get(book, "accounts"), row);
    Array.setInt(cells, owner, Array.getInt(cells, owner) + many);
  }
}
