import java.util.Objects;
import java.util.concurrent.Callable;

/** Counts and prints answers that are not as due. */
final class Check {
  private int asked = 0;
  private int wrong = 0;

  void is(String promise, Object got, Object due) {
    asked++;
    boolean same = got instanceof Number && due instanceof Number
        ? ((Number) got).longValue() == ((Number) due).longValue()
        : Objects.equals(got, due);
    if (!same) {
      wrong++;
      System.out.println(promise + ": answered " + got + ", due is " + due);
    }
  }

  /** The very class: a subclass, such as the machine's own, is not as due. */
  void fails(String promise, Class<?> due, Callable<?> call) {
    Object got;
    try {
      got = call.call();
    } catch (Exception e) {
      got = e.getClass();
    }
    is(promise, got, due);
  }

  void end() {
    System.out.println(asked + " asked, " + wrong + " wrong");
    if (wrong > 0) {
      System.exit(1);
    }
  }
}
