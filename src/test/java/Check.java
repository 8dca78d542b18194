import java.util.Arrays;
import java.util.Objects;
import java.util.concurrent.Callable;

/** Counts and prints answers that are not as due. */
final class Check {
  private int asked = 0;
  private int wrong = 0;

  void is(String promise, Object got, Object due) {
    asked++;
    boolean same = got instanceof Number && due instanceof Number
        ? ((Number) got).longValue() == ((Number) due).longValue()
        : Objects.equals(got, due);
    if (!same) {
      wrong++;
      System.out.println(promise + ": answered " + got + ", due is " + due);
    }
  }

  /** Of what is thrown the very class, and by a statement of Orderbook itself, not by the machine. */
  void fails(String promise, Object due, Callable<?> call) {
    Object got;
    try {
      got = call.call();
    } catch (Exception e) {
      got = thrownBy(e);
    }
    is(promise, got, due);
  }

  /** Thrown, and nothing at all is changed by it. */
  void failsUnchanged(String promise, Class<?> due, Orderbook x, Callable<?> call) {
    String before = Snapshot.of(x);
    fails(promise, due, call);
    is(promise + ", changed", Snapshot.of(x), before);
  }

  /** A reason is told back, kept among what was told and counted; the book stays as it was. */
  void refuses(String promise, int reason, Orderbook x, Callable<Integer> call) {
    String before = Snapshot.ofBook(x);
    int[] counts = Snapshot.refusals(x);
    int told = x.house(13);
    counts[reason]++;
    fails(promise, Integer.valueOf(-reason), call);
    is(promise + ", changed", Snapshot.ofBook(x), before);
    is(promise + ", counted", Arrays.toString(Snapshot.refusals(x)), Arrays.toString(counts));
    is(promise + ", told", x.house(13), told + 1);
    is(promise + ", told back", x.told(told, true), -reason);
  }

  /** The class of what Orderbook threw; what the machine threw stays as it is, and is never due. */
  static Object thrownBy(Exception e) {
    StackTraceElement[] trace = e.getStackTrace();
    boolean isOwn = trace.length > 0 && trace[0].getClassName().equals("Orderbook");
    return isOwn ? e.getClass() : e;
  }

  void end() {
    System.out.println(asked + " asked, " + wrong + " wrong");
    if (wrong > 0) {
      System.exit(1);
    }
  }
}
