import com.sun.management.ThreadMXBean;
import java.lang.management.ManagementFactory;

/** The dearest runs of 512 calls stay far below the room of a run. */
public final class RoomTest {
  /** 7.3 million elements of 4 bytes; what is made is bytes of fields, elements and headers. */
  private static final long MOST_BYTES = 4L * 7_300_000;
  private static final Check check = new Check();

  public static void main(String[] args) {
    ThreadMXBean bean = (ThreadMXBean) ManagementFactory.getThreadMXBean();
    if (!bean.isThreadAllocatedMemorySupported()) {
      System.out.println("this machine counts no bytes");
      return;
    }
    for (int which = 0; which < 4; which++) {
      long before = bean.getThreadAllocatedBytes(Thread.currentThread().getId());
      run(which);
      long made = bean.getThreadAllocatedBytes(Thread.currentThread().getId()) - before;
      check.is("run " + which + " made " + made + " bytes, too many", made < MOST_BYTES, true);
    }
    check.end();
  }

  private static void run(int which) {
    Orderbook x = new Orderbook();
    for (int i = 0; i < 60; i++) {
      x.order(0, i & 1, (i & 1) == 0 ? 400 - i : 500 + i, 150, 0);
    }
    for (int i = 60; i < 512; i++) {
      switch (which) {
        case 0: x.text(i & 1); break;
        case 1: x.digest(); break;
        case 2: x.past(i % 60, 17); break;
        default: x.hidden(i & 1, 450, 500, 1, 1 + (i & 1)); break;
      }
    }
  }
}
