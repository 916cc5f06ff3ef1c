import java.lang.management.ManagementFactory;

/** No call makes objects or rows: what a run of calls needs was made by the constructor. */
public final class RoomTest {
    private static final long NOT_WORTH_COUNTING = 16 * 1024, ONE_OBJECT = 128 * 1024;
    private static final int CALLS = 482;
    private static final Due due = new Due();

    public static void main(String[] args) {
        var threads = (com.sun.management.ThreadMXBean) ManagementFactory.getThreadMXBean();
        run(new LoopListeners());
        threads.getCurrentThreadAllocatedBytes();
        long start = threads.getCurrentThreadAllocatedBytes();
        LoopListeners x = new LoopListeners();
        long made = threads.getCurrentThreadAllocatedBytes();
        run(x);
        long then = threads.getCurrentThreadAllocatedBytes();
        due.is("bytes of a new object are few, of " + (made - start), made - start < ONE_OBJECT ? 1 : 0, 1);
        due.is("bytes of " + CALLS + " calls are as good as none, of " + (then - made), then - made < NOT_WORTH_COUNTING ? 1 : 0, 1);
        due.end();
    }

    /** So many calls, each method among them, with many cars that stand and with all loops. */
    private static void run(LoopListeners x) {
        for (int loop = 0; loop < 6; loop++) {
            x.loop(loop % 2, 6 * loop, 3, 30, 10);
        }
        for (int car = 0; car < 40; car++) {
            x.come(car % 2, 1, 1, 1 + car % 9);
            if (car % 2 == 1) {
                x.ticks(1);
            }
        }
        for (int car = 0; car < 40; car++) {
            x.speed(car, 0);
            x.want(car);
        }
        for (int call = 0; call < 16; call++) {
            x.set(call % 2, 1 + call % 5);
            x.bounds(call % 6, 20 + call, 10);
            x.ticks(100);
            x.ofCar(call, 9);
            x.ofLoop(call % 6, 8);
            x.error(call % 6);
            x.carAt(call % 2, call);
            x.count(call % 12);
            x.inside(call % 6, 0);
            x.countsIn(call % 6, 100);
            x.countsAlone(call % 6, 100);
            x.bestUpper(call % 6, 100);
            x.bestTurn(100);
            x.goneIn(call);
            x.fault();
            x.put('t' << 16 | '9' << 8 | '9');
            x.carryOut();
            x.wipe();
            x.undo();
            x.save(call % 2);
            x.restore(call % 2);
        }
    }
}
