import java.lang.management.ManagementFactory;

/** What objects and calls take of the room in which all calls of a run live, in bytes. */
public final class RoomTest {
    private static final int CALLS = 512;
    private static final com.sun.management.ThreadMXBean THREADS =
            (com.sun.management.ThreadMXBean) ManagementFactory.getThreadMXBean();

    public static void main(String[] args) {
        playAll();
        THREADS.getCurrentThreadAllocatedBytes();
        long ahead = THREADS.getCurrentThreadAllocatedBytes();
        new CampYears();
        long made = THREADS.getCurrentThreadAllocatedBytes() - ahead;
        System.out.println("a new object: " + made + " bytes");
        Check.holds("a new object is small", made < 16_000);
        ahead = THREADS.getCurrentThreadAllocatedBytes();
        playAll();
        long played = THREADS.getCurrentThreadAllocatedBytes() - ahead;
        System.out.println("a full object with " + 5 * CALLS + " calls: " + played + " bytes");
        Check.holds("calls take next to nothing", played < 16_000 + 5 * CALLS * 100);
        Check.end();
    }

    /** The dearest calls, as often as an object can be called, with all that can be filled full. */
    private static void playAll() {
        CampYears x = new CampYears();
        for (int c = 0; c < 7; c++) {
            x.camp(5 * c, 40 - 3 * c, 1);
            x.crew(c, c + 2);
        }
        for (int f = 0; f < 3; f++) {
            x.fire(10 * f, 10 * f, 9, 9);
        }
        for (int p = 0; p < 8; p++) {
            x.place(4 * p, 3 * p, 100, true);
        }
        Scenes.order(x, 0, "o1h0-23@0-399!0123456");
        for (int k = 0; k < CALLS; k++) {
            x.call(-1);
            x.move(-1);
            x.quarrel(0, 5);
            x.sheet(0, 2, 60);
            x.order(0, 3, 0, 0, 14);
        }
    }
}
