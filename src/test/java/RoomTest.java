import com.sun.management.ThreadMXBean;
import java.lang.management.ManagementFactory;

/** 512 of the dearest calls make next to nothing: what they need is made with the object. */
public final class RoomTest {
  private static final int CALLS = 512;
  private static final long MOST_BYTES = 1 << 20;
  private static final Check check = new Check();
  private static long sum = 0;

  public static void main(String[] args) {
    NoManMaySail x = Ships.ship("p24;p19;p28;p04;p58;p66;p49;s012;s103;s233;b00;b10;b20;b31;b41;b52;b62;w4;");
    Ships.row(x, 0, 0, 0, 0, 9, -128, 8, -128, 8);
    x.row(1, 2, 100);
    for (int i = 0; i < 100; i++) {
      x.put(1, i, Integer.MIN_VALUE);
    }
    x.keep(2, 1, 4, 5);
    ask(x);
    ThreadMXBean meter = (ThreadMXBean) ManagementFactory.getThreadMXBean();
    long self = Thread.currentThread().getId();
    long before = meter.getThreadAllocatedBytes(self);
    for (int i = 0; i < CALLS; i++) {
      ask(x);
    }
    long bytes = meter.getThreadAllocatedBytes(self) - before;
    check.holds("bytes for each call 512 times: " + bytes, bytes < MOST_BYTES);
    check.holds("asked", sum != 0);
    check.end("RoomTest");
  }

  /** Asks what costs most, each once. */
  private static void ask(NoManMaySail x) {
    sum += x.whatIs(1, 0, 0) + x.whatIs(1, 0, 1) + x.judge(1) + x.forged(0) + x.capes(20, 7, 0);
    sum += x.odds(0, 7, 20, 0) + x.hire(0, 9, 60) + x.calm(60) + x.keepAshore(60) + x.unmanned();
    sum += x.fewestBoats(-1) + x.manned(3, 2, 2, 0) + x.manned(2, 2, 2, 0) + x.strictest(8);
    sum += x.largest(0) + x.bestCrew(4, 0) + x.cheapest(30, 0) + x.lostIn(60) + x.behind(0, 60);
    sum += x.stranger(0, 0) + x.image() + x.restore() + x.copy(1, 0, 1, 1, 99) + x.toss(2);
  }
}
