import java.lang.reflect.Array;
import java.lang.reflect.Field;
import java.util.List;

/** Promise 38 from within: no run of calls makes a book that is not sound, so its fields are put wrong. */
public final class SoundTest {
  private static final Check check = new Check();

  private interface Harm {
    void doTo(Object live) throws ReflectiveOperationException;
  }

  public static void main(String[] args) throws ReflectiveOperationException {
    unsound("a crossed book", live -> {
      set(order(live, 0), "price", 200);
      set(order(live, 0), "rank", -200);
    });
    unsound("positions that are not even", live -> addTo(live, "positions"));
    unsound("money that is not even", live -> addTo(live, "moneys"));
    unsound("one that does not wait in a queue", live -> set(order(live, 0), "state", 1));
    unsound("one of the other side in a queue", live -> set(order(live, 4), "side", 0));
    unsound("a price that is not that of its queue", live -> set(order(live, 4), "price", 150));
    unsound("a queue out of order", live -> {
      set(order(live, 0), "price", 80);
      set(order(live, 0), "rank", -80);
      set(order(live, 1), "price", 100);
      set(order(live, 1), "rank", -100);
    });
    unsound("traded pieces that are not on the tape", live -> set(order(live, 3), "traded", 4));
    unsound("a phase that is not replayed", live -> set(live, "phase", 2));
    unsound("a break that is not replayed", live -> set(live, "breaks", 1));
    unsound("a minute that is not replayed", live -> set(live, "minute", 3));
    unsound("a text that is not replayed", live -> set(order(live, 6), "left", 8));
    unsound("a level that is not replayed", live -> {
      set(order(live, 5), "price", 102);
      set(order(live, 5), "rank", 102);
    });
    unsound("an account that is not replayed", live -> set(order(live, 7), "left", 5));
    unsound("a limit that is not replayed", live -> addTo(live, "limits"));
    unsound("a clash that is not replayed", live -> addTo(live, "clashes"));
    check.end();
  }

  /** BUY 100: 0; 90: 1. Traded: 2 with 3. SELL 110: 4; 115: 5; 120: 6. Asleep: 7. */
  private static Orderbook sample() {
    Orderbook x = new Orderbook();
    x.order(0, 0, 100, 5, 0);
    x.order(0, 0, 90, 5, 0);
    x.order(0, 1, 105, 3, 1);
    x.order(0, 0, 105, 3, 2);
    x.order(0, 1, 110, 5, 1);
    x.order(0, 1, 115, 5, 1);
    x.order(0, 1, 120, 5, 1);
    x.sleeper(0, 300, 310, 6, 5);
    return x;
  }

  private static void unsound(String name, Harm harm) throws ReflectiveOperationException {
    Orderbook x = sample();
    check.is("38 sound ahead of " + name, x.isSound(), true);
    long digest = x.digest();
    harm.doTo(get(x, "live"));
    check.is("38 " + name, x.isSound(), false);
    check.is("39 tells of " + name, x.digest() == DigestByFace.of(x) && x.digest() != digest, true);
  }

  private static Field field(Object of, String name) throws ReflectiveOperationException {
    Field field = of.getClass().getDeclaredField(name);
    field.setAccessible(true);
    return field;
  }

  private static Object get(Object of, String name) throws ReflectiveOperationException {
    return field(of, name).get(of);
  }

  private static void set(Object of, String name, int value) throws ReflectiveOperationException {
    field(of, name).setInt(of, value);
  }

  private static Object order(Object live, int number) throws ReflectiveOperationException {
    return ((List<?>) get(live, "orders")).get(number);
  }

  private static void addTo(Object live, String row) throws ReflectiveOperationException {
    Object cells = get(get(live, "accounts"), row);
    Array.setInt(cells, 5, Array.getInt(cells, 5) + 1);
  }
}
