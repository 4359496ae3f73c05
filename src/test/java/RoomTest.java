import java.lang.management.ManagementFactory;

/** All calls of one run live in one room: no call may make objects, and a new object is small. */
public final class RoomTest {
    private static final com.sun.management.ThreadMXBean THREADS =
        (com.sun.management.ThreadMXBean) ManagementFactory.getThreadMXBean();

    public static void main(String[] args) {
        PlanLandmarks warm = new PlanLandmarks();
        calls(warm);
        long before = made();
        PlanLandmarks x = new PlanLandmarks();
        long byConstructor = made() - before;
        before = made();
        int answers = 0;
        for (int i = 0; i < 10; i++) {
            answers += calls(x);
        }
        long byCalls = made() - before;
        System.out.println("RoomTest: the constructor made " + byConstructor + " bytes, calls " + byCalls
            + " (" + answers + ")");
        // 10,000 fields of 8 bytes would still let some 700 objects into the room.
        if (byConstructor > 80000 || byCalls > 10000) {
            System.out.println("that is too much");
            System.exit(1);
        }
    }

    private static long made() {
        return THREADS.getThreadAllocatedBytes(Thread.currentThread().getId());
    }

    /** Every call of the face once or more, on a world of 256 STATES. */
    private static int calls(PlanLandmarks x) {
        int all = x.image();
        for (int k = 0; k < 8 && x.status(0) < 8; k++) {
            int lower = (1 << k) - 1;
            x.action(lower | 1 << (8 + k), 1 << k | lower << 8, lower | 1 << (8 + k), 99 - k);
        }
        x.put(0, 255 << 8);
        x.put(1, 255);
        x.put(2, 255 << 8);
        x.macro(0, 0);
        x.row(0, 2, 160);
        x.row(1, 2, 160);
        String text = "goal 0,1,2,3,4,5,6,7;now 8,9;act 1+2-3$4";
        for (int i = 0; i < text.length(); i++) {
            x.set(0, i, text.charAt(i));
        }
        all += x.copy(0, 1, 0, 1, 100) + x.read(0) + x.read(1) + x.fault() + (int) x.element(0, 3);
        all += x.show(2, 0) + x.holds(2) + x.says(2, 0) + x.says(2, 1) + x.actionOf(0, 1);
        for (int state = 0; state < 5; state++) {
            all += x.may(state) + x.then(state, 0) + x.level(state, 30) + x.first(state, 3) + x.firstOf(state, 2);
            all += x.guess(state, state) + x.relaxed(state) + x.helpful(state);
            all += x.state(state) + x.far(state) + x.numberOf(state) + x.excluded(state) + x.bestAt(state);
        }
        all += x.landmarks() + x.isAhead(1, 2) + x.reached() + x.best(0) + x.spell(1);
        all += x.judge(1, 20) + x.behind(1, 0, 0) + x.mostPair(1, 20);
        all += x.greedy(3, 40) + x.walk(40) + x.seed(3) + x.trace(2) + x.status(11) + x.restore();
        return all;
    }
}
