import java.lang.management.ManagementFactory;

/** All calls of a run live in one room: the acts make nothing anew but berths and boats. */
public final class RoomTest {
    private static final int CALLS = 512;
    private static final long MOST_BYTES = 64L * 1024;
    private static int answers = 0;

    public static void main(String[] args) {
        AbreastQuay first = filled();
        useAll(first);
        AbreastQuay x = filled();
        long before = allocated();
        useAll(x);
        long used = allocated() - before;
        Check.holds(CALLS + " rounds of acts made " + used + " bytes", used < MOST_BYTES);
        Check.holds("the acts were done", answers != 0);
        Check.end();
    }

    private static long allocated() {
        com.sun.management.ThreadMXBean threads = (com.sun.management.ThreadMXBean) ManagementFactory.getThreadMXBean();
        return threads.getCurrentThreadAllocatedBytes();
    }

    private static AbreastQuay filled() {
        AbreastQuay x = new AbreastQuay();
        for (int i = 0; i < 4; i++) {
            answers += x.berth(90, 1, 6, 6);
        }
        for (int i = 0; i < 8; i++) {
            answers += x.boat(0, 20, 10, false);
        }
        return x;
    }

    private static void useAll(AbreastQuay x) {
        for (int i = 0; i < CALLS; i++) {
            answers += x.plan(63) + x.lies(63, 5, true) + x.lay(63) + x.comes(6, 0) + x.between(7, 1, 0) + x.goes(0);
            answers += x.may(0, 1) + x.fault(0) + x.pairs(0, true) + x.offer(0) + x.could(1) + x.run(24) + x.tide(i);
            answers += x.feed(i, 8) + x.text() + x.due(0, 1) + x.sheet(0, 8, 8) + x.write(0, 0, i) + x.copy(0, 0, 0, 1, 7);
            answers += x.read(0, 0) + x.told(7) + x.of(0, 7) + x.at(0, 0) + x.as(0, 0) + x.aboard(0, 1) + x.leaves(0, 1, 2);
        }
    }
}
