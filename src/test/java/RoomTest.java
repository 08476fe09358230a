import java.lang.management.ManagementFactory;

/** What a run makes: a new object's rows, and nothing in any call. */
public final class RoomTest {
  private static final int CALLS = 512;
  private static final int[] OFTEN = {45530, 5056, 16869};

  public static void main(String[] args) {
    Check.in("the room of a run");
    run();
    long before = made();
    PointMaps x = new PointMaps();
    long rows = made() - before;
    before = made();
    useAll(x);
    long calls = made() - before;
    Check.so("a new object takes " + rows + " bytes", rows < 1_000_000);
    // The measure itself takes a little.
    Check.so("all calls take " + calls + " bytes", calls < 4_096);
    Check.end();
  }

  private static void run() {
    useAll(new PointMaps());
  }

  private static long made() {
    com.sun.management.ThreadMXBean bean =
        (com.sun.management.ThreadMXBean) ManagementFactory.getThreadMXBean();
    return bean.getThreadAllocatedBytes(Thread.currentThread().getId());
  }

  private static void useAll(PointMaps x) {
    x.points(6);
    for (int t = 0; t < CALLS / 40; t++) {
      for (int map : OFTEN) {
        x.letter(map);
      }
      x.elements(3);
      x.element(1499, 7);
      x.word(1499, 0);
      x.find(7);
      x.done(1499, 1498);
      x.boxes(7);
      x.box(1499, 3);
      x.about(0, 3);
      x.below(0, 0);
      x.ideal(0);
      x.sort(5);
      x.solve(3, 1, 1, 1);
      x.together(63, 0);
      x.lowest(63);
      x.apart();
      x.cut(0, 1);
      x.cuts();
      x.twists();
      x.set(1, 21);
      x.set(0, 2);
      x.taken(40);
      x.least();
      x.parting(0, 1, 0);
      x.meanings(0);
      x.meanings(1);
      x.count(3);
      x.letter(0);
      x.letter(0);
      for (int k = 0; k < 5; k++) {
        x.drop();
      }
    }
  }
}
