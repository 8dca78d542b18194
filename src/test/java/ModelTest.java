import java.util.Arrays;
import java.util.Random;

/** Runs of calls drawn by a fixed seed: each answer of Orderbook is that of the plain model. */
public final class ModelTest {
  private static final int RUNS = 300;
  private static final int CALLS = 512;
  private static final Check check = new Check();

  public static void main(String[] args) {
    for (int run = 0; run < RUNS; run++) {
      compare(run);
    }
    check.end();
  }

  private static void compare(int run) {
    Draw draw = new Draw(run);
    Orderbook x = new Orderbook();
    Model m = new Model();
    for (int i = 0; i < CALLS; i++) {
      int call = draw.call(x);
      int[] a = draw.arguments(call, x);
      Object got = Face.call(x, call, a);
      Object due = call == Face.DIGEST ? DigestByFace.of(x) : m.call(call, a);
      String name = "run " + run + ", call " + i + " (" + call + ") " + Arrays.toString(a);
      check.is(name, got, due);
      if (!got.equals(due)) {
        return;
      }
    }
    compareAll(run, x, m);
  }

  /** At the end of a run all that can be asked is asked. */
  private static void compareAll(int run, Orderbook x, Model m) {
    int[][] most = {{17, 1}, {18, 1, 8, 5}, {19, x.house(5) - 1, 10}, {24, 1}, {25, 1},
        {26, x.house(10) - 1, 5}, {27, 20}, {28, 12, 6}, {29, 5, 6}, {30, 16}, {31, 8},
        {32, x.house(13) - 1, 1}, {34, 2}, {36}};
    for (int[] row : most) {
      int[] a = new int[3];
      askEach(run, x, m, row, a, 0);
    }
  }

  private static void askEach(int run, Orderbook x, Model m, int[] most, int[] a, int at) {
    if (at + 1 < most.length) {
      for (int v = 0; v <= most[at + 1]; v++) {
        a[at] = v;
        askEach(run, x, m, most, a, at + 1);
      }
      return;
    }
    check.is("run " + run + ", the end (" + most[0] + ") " + Arrays.toString(a),
        Face.call(x, most[0], a), m.call(most[0], a));
  }

  /** Draws calls that meet one another: few prices, few owners, and now and then a wrong one. */
  private static final class Draw {
    private static final int CROWD = 6;
    private final Random random;
    private final int middle;
    private final int width;
    private final int style;

    Draw(int seed) {
      random = new Random(seed * 7919L + 17);
      width = 2 + random.nextInt(12);
      middle = random.nextInt(5) == 0 ? 500 : 20 + random.nextInt(960);
      style = random.nextInt(7);
    }

    private int upTo(int least, int most) {
      return least + random.nextInt(most - least + 1);
    }

    int call(Orderbook x) {
      int dice = random.nextInt(100);
      if (x.house(1) == 2 && dice < 40) {
        return random.nextInt(3) == 0 ? 11 : 14;
      }
      if (x.house(1) == 1 && dice < 8) {
        return 12;
      }
      if (style == CROWD && dice < 60) {
        return upTo(0, 2);
      }
      if (dice < 60) {
        int[] often = {0, 0, 0, 1, style == 1 ? 1 : 0, style == 2 ? 2 : 6, 2, 6, 0, 3};
        return often[random.nextInt(often.length)];
      }
      if (dice < 70) {
        int[] seldom = {4, 5, 7, 8, 9, 10, 11, 13, 3, 5};
        int drawn = seldom[random.nextInt(seldom.length)];
        return style == 3 && (drawn == 8 || drawn == 9) ? 7 : drawn;
      }
      return upTo(0, Face.CALLS - 1);
    }

    int[] arguments(int call, Orderbook x) {
      int[] a = right(call, x);
      if (a.length > 0 && random.nextInt(60) == 0) {
        int[] odd = {-1, 0, 1, 2, 6, 7, 500, 501, 999, 1000, Integer.MAX_VALUE, Integer.MIN_VALUE};
        a[random.nextInt(a.length)] = odd[random.nextInt(odd.length)];
      }
      return Arrays.copyOf(a, Face.arguments(call));
    }

    private int price() {
      return Math.max(1, Math.min(999, upTo(middle - width, middle + width)));
    }

    /** Of the style that fills the book the sides do not meet as they come. */
    private int price(int side) {
      if (style != CROWD) {
        return price();
      }
      return side == 0 ? upTo(1, middle) : upTo(middle, 999);
    }

    private int pieces() {
      return random.nextInt(8) == 0 ? upTo(1, 500) : upTo(1, style == 4 ? 3 : 30);
    }

    private int side() {
      return random.nextInt(2);
    }

    private int owner() {
      return random.nextInt(style == 5 ? 3 : 6);
    }

    private int order(Orderbook x) {
      return Math.max(0, x.house(5) - 1 - random.nextInt(random.nextInt(4) == 0 ? 60 : 15));
    }

    private int[] right(int call, Orderbook x) {
      int many = pieces();
      int side = side();
      switch (call) {
        case 0: return new int[] {Math.max(0, upTo(-2, 3)), side, price(side), many, owner()};
        case 1: return new int[] {side, price(side), many, upTo(1, Math.min(many, 6)), owner()};
        case 2: return new int[] {side(), price(), price(), many, owner()};
        case 3: return new int[] {order(x)};
        case 5: return new int[] {order(x), upTo(1, 9)};
        case 6: return new int[] {order(x), price()};
        case 7: return new int[] {upTo(1, 2)};
        case 8: return new int[] {upTo(-6, 3) < 1 ? 1 : upTo(1, 3)};
        case 9: return new int[] {price(), random.nextInt(3) == 0 ? upTo(0, width) : upTo(width, 2 * width + 9)};
        case 10: return new int[] {owner(), random.nextInt(4) == 0 ? upTo(0, 300) : 9999};
        case 18: return new int[] {side(), upTo(0, 4), upTo(0, 5)};
        case 19: return new int[] {order(x), upTo(0, 10)};
        case 20: case 22: return new int[] {side(), price()};
        case 21: return new int[] {side(), price(), upTo(0, 3)};
        case 23: return new int[] {side(), price(), price()};
        case 26: return new int[] {upTo(0, Math.max(0, x.house(10))), upTo(0, 5)};
        case 27: return new int[] {upTo(0, Math.max(0, x.house(10)))};
        case 28: return new int[] {Math.max(0, x.house(0) - upTo(0, 3)), upTo(0, 6)};
        case 29: return new int[] {owner(), upTo(0, 6)};
        case 31: return new int[] {upTo(1, 8)};
        case 32: return new int[] {upTo(0, x.house(13)), side()};
        case 33: return new int[] {side(), price(), many, owner(), side()};
        case 34: return new int[] {upTo(0, 2)};
        case 35: return new int[] {upTo(0, x.house(13)), upTo(0, 18)};
        case 4: return new int[] {owner()};
        case 17: case 24: case 25: return new int[] {side()};
        case 30: return new int[] {upTo(0, 16)};
        default: return new int[Face.arguments(call)];
      }
    }
  }
}
