import com.sun.management.ThreadMXBean;
import java.lang.management.ManagementFactory;

/** All calls of a run live in one room: what the dearest calls make, and how long the heaviest take. */
public final class RoomTest {
  private static final ThreadMXBean ROOM = (ThreadMXBean) ManagementFactory.getThreadMXBean();
  private static int wrong = 0;
  private static long behindFirst = 0;

  public static void main(String[] args) {
    run();
    long before = ROOM.getCurrentThreadAllocatedBytes();
    new DomeCalendar();
    long made = ROOM.getCurrentThreadAllocatedBytes() - before;
    keep(made < 60000, "a new object makes " + made + " bytes");
    long whole = run();
    // The image and the row of ways are made once; nothing else is made by a call.
    keep(whole < 60000 + 60000 + 300000, "a run of 484 calls makes " + whole + " bytes");
    keep(behindFirst == 0, "calls that were made before make " + behindFirst + " bytes more");
    long start = System.nanoTime();
    heaviest();
    long millis = (System.nanoTime() - start) / 1000000;
    keep(millis < 60000, "the heaviest calls take " + millis + " ms");
    System.out.println("new: " + made + " bytes, a run: " + whole + " bytes, the heaviest calls: " + millis + " ms");
    if (wrong != 0) {
      System.exit(1);
    }
  }

  private static void keep(boolean kept, String what) {
    if (!kept) {
      wrong++;
      System.out.println(what);
    }
  }

  private static void words(DomeCalendar c, int a, int b, int d, int e, int f) {
    c.feed(a, b, d, e, f);
  }

  /** Of each kind of call many, 484 in all; answers what was made in them. */
  private static long run() {
    long before = ROOM.getCurrentThreadAllocatedBytes();
    DomeCalendar c = new DomeCalendar();
    int sum = 0;
    long afterFirst = 0;
    for (int i = 0; i < 11; i++) {
      // "block 1 of 0 west;" six times over.
      for (int k = 0; k < 6; k++) {
        words(c, 0x626C6F63, 0x6B203120, 0x6F662030, 0x20776573, 0x743B2020);
      }
      sum += c.text(0);
      words(c, 0x726F6164, 0x20393B72, 0x6F616420, 0x393B2020, 0x20202020);
      sum += c.text(1);
      words(c, 0x6861756C, 0x20352B67, 0x72656173, 0x653B2020, 0x20202020);
      sum += c.text(2);
      words(c, 0x77616974, 0x20313B20, 0x20202020, 0x20202020, 0x20202020);
      sum += c.text(3);
      sum += c.closes() + c.soonest(0) + c.soonest(10) + c.slack(1) + c.fewest(99) + c.help(0) + c.without(1);
      sum += c.weeks(3) + c.planned(1) + c.plan() + c.spare() + (int) c.ways(2) + c.weeks(5);
      c.undo();
      c.image(true);
      c.image(false);
      sum += c.blame(0) + c.look(3) + c.chain(3) + c.of(1, 7) + c.stretch(0, 2) + c.order(0) + c.book(0, 0) + c.fault(0);
      sum += c.took(0, 0) + c.can() + c.herd(9, 0) + c.state(i) + (c.set(6, 300) && c.vein(0, true) && c.rank(1, 0) ? 1 : 0);
      afterFirst = i == 0 ? ROOM.getCurrentThreadAllocatedBytes() : afterFirst;
    }
    behindFirst = ROOM.getCurrentThreadAllocatedBytes() - afterFirst;
    return sum == Integer.MIN_VALUE ? 0 : ROOM.getCurrentThreadAllocatedBytes() - before;
  }

  private static void heaviest() {
    DomeCalendar c = Check.make(Check.blocks(6), "road 99;hill 99;");
    c.set(0, 99);
    c.set(2, 99);
    c.set(3, 9);
    Check.tell(c, 2, "haul 0 when week+size*2<mud or not(left=3 and oxen>99);".repeat(6));
    keep(c.soonest(0) == DomeCalendar.NONE, "no order closes");
    keep(c.fewest(9999) == DomeCalendar.NONE, "no herd closes");
    DomeCalendar d = Check.make(Check.blocks(14), "road 99;hill 99;");
    Check.tell(d, 2, "haul 1;");
    d.set(0, 99);
    d.set(2, 99);
    keep(d.slack(13) >= 0, "slack");
    keep(d.fewest(9999) >= 0, "fewest");
    keep(d.ways(2) == 87178291200L, "ways");
    Check.tell(d, 3, "again 9(again 9(wait 60;))again 9(wait 60;)again 9(wait 60;)wait 60;");
    keep(d.planned(0) == 14, "planned");
    keep(d.plan() == 6000, "plan");
  }
}
