import java.util.ArrayList;
import java.util.Comparator;
import java.util.List;
import java.util.stream.Collectors;
import java.util.stream.IntStream;

/** The document once more, written only to be plain: what Orderbook answers is compared with it. */
final class Model {
  private static final class Item {
    int number;
    int kind;
    int side;
    int price;
    int pieces;
    int owner;
    int shown;
    int trigger;
    int left;
    int part;
    int traded;
    int came;
    String state = "new";
    boolean awake;

    int shows() {
      return kind == 4 ? part : left;
    }

    boolean alive() {
      return state.equals("waits") || state.equals("sleeps");
    }
  }

  private final List<Item> items = new ArrayList<>();
  private final List<int[]> trades = new ArrayList<>();
  private final List<int[]> log = new ArrayList<>();
  private final int[] position = new int[6];
  private final int[] money = new int[6];
  private final int[] limit = {5000, 5000, 5000, 5000, 5000, 5000};
  private final int[] clashes = new int[6];
  private final int[] refused = new int[9];
  private int minute;
  private int phase;
  private int tick = 1;
  private int reference = 500;
  private int band = 999;
  private int breaks;
  private int nothings;
  private int knocks;
  private int stamp;

  /** The calls are numbered as the document's face lists them, from 0. Flags are 0 or 1. */
  Object call(int call, int... a) {
    Class<?> thrown = thrownBy(call, a);
    if (thrown != null) {
      return thrown;
    }
    if (call <= 14) {
      int answer = carryOut(call, a);
      int[] row = {call, answer, at(a, 0), at(a, 1), at(a, 2), at(a, 3), at(a, 4)};
      log.add(row);
      return (long) answer;
    }
    if (call == 24) {
      return text(a[0]);
    }
    if (call == 27) {
      return trades.stream().skip(a[0]).limit(8).map(t -> t[1] + "x" + t[0])
          .reduce((l, r) -> l + " " + r).orElse("-");
    }
    return ask(call, a);
  }

  private static int at(int[] a, int i) {
    return i < a.length ? a[i] : 0;
  }

  private static boolean in(int v, int low, int high) {
    return low <= v && v <= high;
  }

  private static boolean badOrder(int side, int price, int pieces, int owner) {
    return !in(side, 0, 1) || !in(price, 1, 999) || !in(pieces, 1, 500) || !in(owner, 0, 5);
  }

  private static Class<?> argumentIf(boolean bad) {
    return bad ? IllegalArgumentException.class : null;
  }

  private static Class<?> stateIf(boolean bad) {
    return bad ? IllegalStateException.class : null;
  }

  private Class<?> thrownBy(int call, int[] a) {
    boolean asksOrder = call == 3 || call == 5 || call == 6 || call == 19;
    if (asksOrder && !in(a[0], 0, items.size() - 1) || call == 26 && !in(a[0], 0, trades.size() - 1)
        || call == 32 && !in(a[0], 0, log.size() - 1)) {
      return IndexOutOfBoundsException.class;
    }
    switch (call) {
      case 0: return argumentIf(!in(a[0], 0, 3) || badOrder(a[1], a[2], a[3], a[4]));
      case 1: return argumentIf(badOrder(a[0], a[1], a[2], a[4]) || !in(a[3], 1, a[2]));
      case 2: return argumentIf(badOrder(a[0], a[2], a[3], a[4]) || !in(a[1], 1, 999));
      case 3: return stateIf(!items.get(a[0]).alive());
      case 4: return argumentIf(!in(a[0], 0, 5));
      case 5: return !in(a[1], 1, 500) ? argumentIf(true)
          : stateIf(!items.get(a[0]).alive() || items.get(a[0]).left <= a[1]);
      case 6: return !in(a[1], 1, 999) ? argumentIf(true)
          : stateIf(!items.get(a[0]).state.equals("waits"));
      case 7: return !in(a[0], 1, 99) ? argumentIf(true) : stateIf(minute + a[0] > 9999);
      case 8: return argumentIf(!in(a[0], 1, 10));
      case 9: return argumentIf(!in(a[0], 1, 999) || !in(a[1], 0, 999));
      case 10: return argumentIf(!in(a[0], 0, 5) || !in(a[1], 0, 9999));
      case 11: return stateIf(phase == 1);
      case 12: return stateIf(phase != 1);
      case 13: return stateIf(phase != 0);
      case 14: return stateIf(phase != 2);
      case 17: case 24: case 25: return argumentIf(!in(a[0], 0, 1));
      case 18: return argumentIf(!in(a[0], 0, 1) || a[1] < 0 || !in(a[2], 0, 5));
      case 19: return argumentIf(!in(a[1], 0, 10));
      case 20: case 22: return argumentIf(!in(a[0], 0, 1) || !in(a[1], 1, 999));
      case 21: return argumentIf(!in(a[0], 0, 1) || !in(a[1], 1, 999) || a[2] < 0);
      case 23: return argumentIf(!in(a[0], 0, 1) || !in(a[1], 1, 999) || !in(a[2], 1, 999));
      case 26: return argumentIf(!in(a[1], 0, 5));
      case 27: return argumentIf(a[0] < 0);
      case 28: return argumentIf(!in(a[0], 0, 9999) || !in(a[1], 0, 6));
      case 29: return argumentIf(!in(a[0], 0, 5) || !in(a[1], 0, 6));
      case 30: return argumentIf(!in(a[0], 0, 16));
      case 31: return argumentIf(!in(a[0], 1, 8));
      case 33: return argumentIf(badOrder(a[0], a[1], a[2], a[3]));
      case 34: return argumentIf(!in(a[0], 0, 2));
      case 35: return argumentIf(!in(a[0], 0, log.size()) || !in(a[1], 0, 18));
      default: return null;
    }
  }

  private int carryOut(int call, int[] a) {
    int before;
    switch (call) {
      case 0: return offer(a[0], a[1], a[2], a[3], a[4], 0, 0);
      case 1: return offer(4, a[0], a[1], a[2], a[4], a[3], 0);
      case 2: return offer(5, a[0], a[2], a[3], a[4], 0, a[1]);
      case 3:
        before = items.get(a[0]).left;
        end(items.get(a[0]));
        return before;
      case 4:
        List<Item> all = aliveOf(a[0]);
        all.forEach(Model::end);
        return all.size();
      case 5:
        Item shorter = items.get(a[0]);
        int notShown = shorter.left - shorter.part;
        shorter.left -= a[1];
        if (a[1] > notShown) {
          shorter.part -= a[1] - notShown;
        }
        return shorter.left;
      case 6:
        Item moved = items.get(a[0]);
        if (reasonOfPrice(a[1], 0) > 0) {
          refused[reasonOfPrice(a[1], 0)]++;
          return -reasonOfPrice(a[1], 0);
        }
        moved.price = a[1];
        if (phase == 1) {
          toQueue(moved);
        } else {
          come(moved);
          awakeOnes();
        }
        return moved.left;
      case 7: return minute += a[0];
      case 8:
        before = tick;
        tick = a[0];
        return before;
      case 9:
        before = reference;
        reference = a[0];
        band = a[1];
        return before;
      case 10:
        before = limit[a[0]];
        limit[a[0]] = a[1];
        return before;
      case 11:
        before = phase;
        phase = 1;
        return before;
      case 12: return auction();
      case 13:
        phase = 2;
        return count("waits");
      default:
        phase = 0;
        return count("waits");
    }
  }

  private int count(String state) {
    return (int) items.stream().filter(i -> i.state.equals(state)).count();
  }

  private List<Item> aliveOf(int owner) {
    return items.stream().filter(i -> i.owner == owner && i.alive()).collect(Collectors.toList());
  }

  /** The orders that wait on a side, as they trade. */
  private List<Item> queue(int side) {
    return items.stream().filter(i -> i.state.equals("waits") && i.side == side)
        .sorted(Comparator.<Item>comparingInt(i -> side == 0 ? -i.price : i.price)
            .thenComparingInt(i -> i.came)).collect(Collectors.toList());
  }

  private List<Item> queue(int side, int price) {
    return queue(side).stream().filter(i -> i.price == price).collect(Collectors.toList());
  }

  private List<Integer> prices(int side) {
    return queue(side).stream().map(i -> i.price).distinct().collect(Collectors.toList());
  }

  private static int left(List<Item> some) {
    return some.stream().mapToInt(i -> i.left).sum();
  }

  private static int shown(List<Item> some) {
    return some.stream().mapToInt(Item::shows).sum();
  }

  private boolean off(int price) {
    return Math.abs(price - reference) > band;
  }

  private static boolean reached(int side, int price, int other) {
    return side == 0 ? other <= price : other >= price;
  }

  private int reasonOfPrice(int price, int trigger) {
    if (phase == 2) {
      return 1;
    }
    if (price % tick != 0 || trigger % tick != 0) {
      return 2;
    }
    return off(price) ? 3 : 0;
  }

  private int reason(Item i) {
    int first = reasonOfPrice(i.price, i.trigger);
    if (first > 0) {
      return first;
    }
    int own = left(aliveOf(i.owner).stream().filter(o -> o.side == i.side).collect(Collectors.toList()));
    int held = i.side == 0 ? position[i.owner] : -position[i.owner];
    if (i.pieces + own + held > limit[i.owner]) {
      return 4;
    }
    if (count("waits") + count("sleeps") == 60) {
      return 5;
    }
    if (phase == 1 && in(i.kind, 1, 3)) {
      return 6;
    }
    if (i.kind == 3 && prices(1 - i.side).stream().anyMatch(p -> reached(i.side, i.price, p))) {
      return 7;
    }
    return i.kind == 2 && could(i) < i.pieces ? 8 : 0;
  }

  private int could(Item i) {
    int sum = 0;
    for (int price : prices(1 - i.side)) {
      if (!reached(i.side, i.price, price) || off(price)) {
        break;
      }
      sum += queue(1 - i.side, price).stream().filter(o -> o.owner != i.owner).mapToInt(o -> o.left).sum();
    }
    return sum;
  }

  private int offer(int kind, int side, int price, int pieces, int owner, int shown, int trigger) {
    Item i = new Item();
    i.kind = kind;
    i.side = side;
    i.price = price;
    i.pieces = pieces;
    i.left = pieces;
    i.owner = owner;
    i.shown = shown;
    i.trigger = trigger;
    int reason = reason(i);
    if (reason > 0) {
      refused[reason]++;
      return -reason;
    }
    i.number = items.size();
    items.add(i);
    if (kind == 5) {
      i.state = "sleeps";
    } else if (phase == 1) {
      toQueue(i);
    } else {
      come(i);
      awakeOnes();
    }
    return i.number;
  }

  private void toQueue(Item i) {
    i.state = "waits";
    i.came = ++stamp;
    i.part = Math.min(i.shown, i.left);
  }

  private static void end(Item i) {
    i.state = "ended";
    i.left = 0;
  }

  private void come(Item i) {
    i.state = "comes";
    while (i.left > 0 && !queue(1 - i.side).isEmpty()) {
      Item other = queue(1 - i.side).get(0);
      if (!reached(i.side, i.price, other.price)) {
        break;
      }
      if (off(other.price)) {
        phase = 2;
        breaks++;
        end(i);
        return;
      }
      if (other.owner == i.owner) {
        clashes[i.owner]++;
        end(other);
        continue;
      }
      int many = Math.min(i.left, other.shows());
      trade(i.side == 0 ? i : other, i.side == 0 ? other : i, other.price, many, i.side);
      other.part -= many;
      after(other);
    }
    if (i.left == 0) {
      i.state = "done";
    } else if (i.kind == 1 || i.kind == 2) {
      end(i);
    } else {
      toQueue(i);
    }
  }

  private void after(Item other) {
    if (other.left == 0) {
      other.state = "done";
    } else if (other.kind == 4 && other.part == 0) {
      toQueue(other);
    }
  }

  private void trade(Item buyer, Item seller, int price, int many, int who) {
    trades.add(new int[] {price, many, buyer.number, seller.number, minute, who});
    buyer.left -= many;
    seller.left -= many;
    buyer.traded += many;
    seller.traded += many;
    position[buyer.owner] += many;
    position[seller.owner] -= many;
    money[buyer.owner] -= many * price;
    money[seller.owner] += many * price;
    for (Item s : items) {
      if (s.state.equals("sleeps") && (s.side == 0 ? s.trigger <= price : s.trigger >= price)) {
        s.awake = true;
      }
    }
  }

  private void awakeOnes() {
    while (true) {
      Item next = items.stream().filter(i -> i.awake).findFirst().orElse(null);
      if (next == null) {
        return;
      }
      next.awake = false;
      if (phase == 2) {
        end(next);
      } else {
        come(next);
      }
    }
  }

  /** Price, what trades and what is left over of the best price; of none -1, 0, 0. */
  private int[] cross() {
    return IntStream.concat(prices(0).stream().mapToInt(p -> p), prices(1).stream().mapToInt(p -> p))
        .mapToObj(p -> {
          int bought = queue(0).stream().filter(i -> i.price >= p).mapToInt(i -> i.left).sum();
          int sold = queue(1).stream().filter(i -> i.price <= p).mapToInt(i -> i.left).sum();
          return new int[] {p, Math.min(bought, sold), Math.abs(bought - sold)};
        }).filter(c -> c[1] > 0)
        .min(Comparator.<int[]>comparingInt(c -> -c[1]).thenComparingInt(c -> c[2]).thenComparingInt(c -> c[0]))
        .orElse(new int[] {-1, 0, 0});
  }

  private int auction() {
    int price = cross()[0];
    while (price > 0 && !queue(0).isEmpty() && !queue(1).isEmpty()) {
      Item buyer = queue(0).get(0);
      Item seller = queue(1).get(0);
      if (buyer.price < price || seller.price > price) {
        break;
      }
      int many = Math.min(buyer.shows(), seller.shows());
      trade(buyer, seller, price, many, 2);
      buyer.part -= many;
      seller.part -= many;
      after(buyer);
      after(seller);
    }
    phase = 0;
    reference = price > 0 ? price : reference;
    awakeOnes();
    return price;
  }

  private String text(int side) {
    return prices(side).stream().map(p -> p + "x" + shown(queue(side, p)))
        .reduce((l, r) -> l + " " + r).orElse("-");
  }

  private long ask(int call, int[] a) {
    switch (call) {
      case 15:
        nothings++;
        return -9;
      case 16: return ++knocks;
      case 17: return prices(a[0]).isEmpty() ? -1 : prices(a[0]).get(0);
      case 18: return level(a[0], a[1], a[2]);
      case 19: return ofOrder(items.get(a[0]), a[1]);
      case 20: return queue(a[0], a[1]).isEmpty() ? ask(15, a) : queue(a[0], a[1]).get(0).number;
      case 21: return queue(a[0], a[1]).size() <= a[2] ? -1 : queue(a[0], a[1]).get(a[2]).number;
      case 22: return queue(a[0]).stream().filter(i -> reached(1 - a[0], a[1], i.price))
          .mapToInt(i -> i.left).sum();
      case 23: return a[1] > a[2] ? ask(15, a) : queue(a[0]).stream()
          .filter(i -> in(i.price, a[1], a[2])).mapToInt(i -> i.left).sum();
      case 25: return items.stream().filter(i -> i.state.equals("sleeps") && i.side == a[0]).count();
      case 26: return trades.get(a[0])[a[1]];
      case 28: return ofMinute(a[0], a[1]);
      case 29: return account(a[0], a[1]);
      case 30: return house(a[0]);
      case 31: return refused[a[0]];
      case 32: return log.get(a[0])[a[1] == 1 ? 1 : 0];
      case 33: return would(a);
      case 34: return cross()[a[0]];
      case 35: return replay(a[0]).pastAnswer(a[1]);
      case 36: return 1;
      default: return Long.MIN_VALUE;
    }
  }

  private Model replay(int many) {
    Model m = new Model();
    log.stream().limit(many).forEach(r -> m.call(r[0], r[2], r[3], r[4], r[5], r[6]));
    return m;
  }

  private long pastAnswer(int what) {
    return what <= 16 ? house(what) : ask(17, new int[] {what - 17});
  }

  private long level(int side, int nth, int what) {
    if (nth >= prices(side).size()) {
      return -1;
    }
    List<Item> there = queue(side, prices(side).get(nth));
    int[] all = {there.get(0).price, shown(there), left(there), there.size(), there.get(0).number,
        there.get(there.size() - 1).number};
    return all[what];
  }

  private long ofOrder(Item i, int what) {
    boolean waits = i.state.equals("waits");
    int[] all = {i.side, i.price, i.pieces, i.owner, i.kind, i.left, waits ? i.shows() : 0,
        List.of("waits", "sleeps", "done", "ended").indexOf(i.state), i.traded, i.trigger,
        waits ? queue(i.side, i.price).indexOf(i) : -1};
    return all[what];
  }

  private long ofMinute(int which, int what) {
    List<int[]> some = trades.stream().filter(t -> t[4] == which).collect(Collectors.toList());
    switch (what) {
      case 0: return some.size();
      case 1: return some.stream().mapToInt(t -> t[1]).sum();
      case 2: return some.stream().mapToInt(t -> t[0] * t[1]).sum();
      case 3: return some.isEmpty() ? -1 : some.get(0)[0];
      case 4: return some.isEmpty() ? -1 : some.get(some.size() - 1)[0];
      case 5: return some.stream().mapToInt(t -> t[0]).max().orElse(-1);
      default: return some.stream().mapToInt(t -> t[0]).min().orElse(-1);
    }
  }

  private long account(int owner, int what) {
    switch (what) {
      case 0: return position[owner];
      case 1: return money[owner];
      case 2: return limit[owner];
      case 3: case 4: return aliveOf(owner).stream().filter(i -> i.side == what - 3)
          .mapToInt(i -> i.left).sum();
      case 5: return aliveOf(owner).size();
      default: return clashes[owner];
    }
  }

  private long house(int what) {
    int[] all = {minute, phase, tick, reference, band, items.size(), count("waits"), count("sleeps"),
        count("done"), count("ended"), trades.size(), trades.stream().mapToInt(t -> t[1]).sum(),
        trades.isEmpty() ? -1 : trades.get(trades.size() - 1)[0], log.size(), nothings, knocks, breaks};
    return all[what];
  }

  /** A plain order comes to a book that is made anew from all that was told, alone. */
  private long would(int[] a) {
    if (phase != 0) {
      return 0;
    }
    Model m = replay(log.size());
    Item i = new Item();
    i.side = a[0];
    i.price = a[1];
    i.pieces = a[2];
    i.left = a[2];
    i.owner = a[3];
    i.number = m.items.size();
    m.come(i);
    return m.trades.stream().skip(trades.size()).mapToInt(t -> a[4] == 1 ? t[0] * t[1] : t[1]).sum();
  }
}
