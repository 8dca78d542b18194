import java.util.Arrays;

/** Each bound of each argument: what lies at it is taken, what lies beyond throws and changes nothing. */
public final class BoundsTest {
  private static final Class<?> ARGUMENT = IllegalArgumentException.class;
  private static final Class<?> STATE = IllegalStateException.class;
  private static final Class<?> INDEX = IndexOutOfBoundsException.class;
  private static final int MIN = Integer.MIN_VALUE;
  private static final int MAX = Integer.MAX_VALUE;
  private static final Check check = new Check();

  private static final int SIDE = 1;
  private static final int OWNER = 5;
  private static final int PRICE = 999;
  private static final int PIECES = 500;
  private static final int LAST_ORDER = 5;
  private static final int LAST_TRADE = 2;
  private static final int TOLD = 8;

  /** The call's number on the face, which argument, its least, its most, and arguments that are right. */
  private static final int[][] BOUNDS = {
      {0, 0, 0, 3, 0, 0, 300, 5, 1}, {0, 1, 0, SIDE, 0, 0, 300, 5, 1}, {0, 2, 1, PRICE, 0, 0, 300, 5, 1},
      {0, 3, 1, PIECES, 0, 0, 300, 5, 1}, {0, 4, 0, OWNER, 0, 0, 300, 5, 1},
      {1, 0, 0, SIDE, 0, 300, 5, 1, 1}, {1, 1, 1, PRICE, 0, 300, 5, 1, 1}, {1, 2, 1, PIECES, 0, 300, 5, 1, 1},
      {1, 3, 1, 5, 0, 300, 5, 1, 1}, {1, 3, 1, 1, 0, 300, 1, 1, 1}, {1, 3, 1, 500, 0, 300, 500, 1, 1},
      {1, 2, 5, PIECES, 0, 300, 5, 5, 1}, {1, 4, 0, OWNER, 0, 300, 5, 1, 1},
      {2, 0, 0, SIDE, 0, 300, 300, 5, 1}, {2, 1, 1, 999, 0, 300, 300, 5, 1}, {2, 2, 1, PRICE, 0, 300, 300, 5, 1},
      {2, 3, 1, PIECES, 0, 300, 300, 5, 1}, {2, 4, 0, OWNER, 0, 300, 300, 5, 1},
      {4, 0, 0, OWNER, 1},
      {6, 1, 1, PRICE, LAST_ORDER, 300}, {7, 0, 1, 99, 5}, {8, 0, 1, 10, 5},
      {9, 0, 1, 999, 300, 5}, {9, 1, 0, 999, 300, 5}, {10, 0, 0, OWNER, 1, 5}, {10, 1, 0, 9999, 1, 5},
      {17, 0, 0, SIDE, 0}, {18, 0, 0, SIDE, 0, 0, 0}, {18, 1, 0, MAX, 0, 0, 0}, {18, 2, 0, 5, 0, 0, 0},
      {19, 1, 0, 10, 0, 0}, {20, 0, 0, SIDE, 0, 300}, {20, 1, 1, PRICE, 0, 300},
      {21, 0, 0, SIDE, 0, 300, 0}, {21, 1, 1, PRICE, 0, 300, 0}, {21, 2, 0, MAX, 0, 300, 0},
      {22, 0, 0, SIDE, 0, 300}, {22, 1, 1, PRICE, 0, 300},
      {23, 0, 0, SIDE, 0, 300, 301}, {23, 1, 1, PRICE, 0, 300, 301}, {23, 2, 1, PRICE, 0, 300, 301},
      {24, 0, 0, SIDE, 0}, {25, 0, 0, SIDE, 0}, {26, 1, 0, 5, 0, 0}, {27, 0, 0, MAX, 0},
      {28, 0, 0, 9999, 0, 0}, {28, 1, 0, 6, 0, 0}, {29, 0, 0, OWNER, 0, 0}, {29, 1, 0, 6, 0, 0},
      {30, 0, 0, 16, 0}, {31, 0, 1, 8, 1},
      {33, 0, 0, SIDE, 0, 300, 5, 1, 0}, {33, 1, 1, PRICE, 0, 300, 5, 1, 0}, {33, 2, 1, PIECES, 0, 300, 5, 1, 0},
      {33, 3, 0, OWNER, 0, 300, 5, 1, 1}, {34, 0, 0, 2, 0}, {35, 0, 0, TOLD, 0, 0}, {35, 1, 0, 18, 0, 0}};

  /** As above, of those that throw IndexOutOfBoundsException. */
  private static final int[][] INDICES = {{3, 0, 0, LAST_ORDER, 0}, {5, 0, 0, LAST_ORDER, 0, 1},
      {6, 0, 0, LAST_ORDER, 0, 300}, {19, 0, 0, LAST_ORDER, 0, 0}, {26, 0, 0, LAST_TRADE, 0, 0},
      {32, 0, 0, TOLD - 1, 0, 1}, {32, 0, 0, TOLD - 1, 0, 0}};

  /** Several are wrong at once: the one that is named first is thrown. */
  private static final int[][] INDEX_FIRST = {{5, LAST_ORDER + 1, 0}, {5, -1, 501}, {6, LAST_ORDER + 1, 0},
      {6, -1, 1000}, {19, LAST_ORDER + 1, 11}, {19, -1, -1}, {26, LAST_TRADE + 1, 6}, {26, -1, -1}};

  public static void main(String[] args) {
    for (int phase = 0; phase <= 2; phase++) {
      for (int[] row : BOUNDS) {
        bound(phase, row, ARGUMENT);
      }
      for (int[] row : INDICES) {
        bound(phase, row, INDEX);
      }
      for (int[] row : INDEX_FIRST) {
        thrown("index first", phase, row[0], Arrays.copyOfRange(row, 1, row.length), INDEX);
      }
      nothingThere(phase);
      argumentAheadOfState(phase);
    }
    phases();
    check.end();
  }

  /** Orders 0 to 5: 0, 1 and 3 are done, 2 and 5 wait, 4 sleeps; 3 trades; 8 calls are told. */
  private static Orderbook sample(int phase) {
    Orderbook x = new Orderbook();
    x.pass(3);
    x.order(0, 0, 400, 8, 0);
    x.order(0, 1, 400, 8, 1);
    x.hidden(0, 300, 9, 2, 2);
    x.order(0, 1, 300, 3, 3);
    x.sleeper(1, 100, 100, 7, 4);
    x.order(0, 0, 200, 9, 5);
    if (phase == 0) {
      x.tick(1);
    } else if (phase == 1) {
      x.gather();
    } else {
      x.halt();
    }
    return x;
  }

  private static void bound(int phase, int[] row, Class<?> due) {
    int[] right = Arrays.copyOfRange(row, 4, row.length);
    for (int v : new int[] {row[2], row[3]}) {
      int[] a = right.clone();
      a[row[1]] = v;
      Object got = Face.call(sample(phase), row[0], a);
      check.is(name("within", phase, row[0], a) + " threw " + got, got == due, false);
    }
    if (row[2] != MIN) {
      beyond(phase, row, right, row[2] - 1, due);
      beyond(phase, row, right, MIN, due);
    }
    if (row[3] != MAX) {
      beyond(phase, row, right, row[3] + 1, due);
      beyond(phase, row, right, MAX, due);
    }
  }

  private static void beyond(int phase, int[] row, int[] right, int v, Class<?> due) {
    int[] a = right.clone();
    a[row[1]] = v;
    thrown("beyond", phase, row[0], a, due);
  }

  private static void thrown(String what, int phase, int call, int[] a, Class<?> due) {
    Orderbook x = sample(phase);
    check.failsUnchanged(name(what, phase, call, a), due, x, () -> Face.call(x, call, a));
  }

  private static String name(String what, int phase, int call, int[] a) {
    return what + ", phase " + phase + ", call " + call + " " + Arrays.toString(a);
  }

  /** Of a new book there is no order, no trade and nothing that was told. */
  private static void nothingThere(int phase) {
    for (int call : new int[] {3, 5, 6, 19, 26, 32}) {
      Orderbook x = new Orderbook();
      check.failsUnchanged("nothing there, call " + call, INDEX, x, () -> Face.call(x, call, 0, 1));
      check.is("35 of nothing", x.past(0, 5), 0);
      check.failsUnchanged("35 of more than nothing", ARGUMENT, x, () -> x.past(1, 5));
    }
  }

  /** Order 0 is done: less() and change() look at their arguments ahead of that. */
  private static void argumentAheadOfState(int phase) {
    int[][] rows = {{5, 0, 0}, {5, 0, 501}, {6, 0, 0}, {6, 0, 1000}};
    for (int[] row : rows) {
      thrown("argument first", phase, row[0], Arrays.copyOfRange(row, 1, row.length), ARGUMENT);
    }
    int[][] states = {{3, 0}, {5, 0, 1}, {6, 0, 300}};
    for (int[] row : states) {
      thrown("state, no reason", phase, row[0], Arrays.copyOfRange(row, 1, row.length), STATE);
    }
  }

  /** The phases in which gather(), auction(), halt() and resume() throw. */
  private static void phases() {
    int[][] wrong = {{11, 1}, {12, 0}, {12, 2}, {13, 1}, {13, 2}, {14, 0}, {14, 1}};
    int[][] right = {{11, 0}, {11, 2}, {12, 1}, {13, 0}, {14, 2}};
    for (int[] row : wrong) {
      thrown("the wrong phase", row[1], row[0], new int[0], STATE);
    }
    int[] then = {1, 1, 0, 2, 0};
    for (int i = 0; i < right.length; i++) {
      Orderbook x = sample(right[i][1]);
      Object got = Face.call(x, right[i][0]);
      check.is("the right phase, call " + right[i][0] + " " + got, got instanceof Long, true);
      check.is("the phase then, call " + right[i][0], x.house(1), then[i]);
    }
  }
}
