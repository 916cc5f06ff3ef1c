/**
 * Refused calls: which error is returned, also if several apply ("it names its errors in the order in which they are
 * checked, and the first one that applies is returned"), and that "a call that returns an error changes nothing": each
 * view of an object that refused a call is compared with the same view of an object that was not called.
 */
public final class RefusalsTest {
    private static final Due due = new Due();

    private interface Call {
        int on(LoopListeners x);
    }

    private static final String[][] UNTOUCHED = new String[Roads.values().length][Views.MANY];

    public static void main(String[] args) {
        for (Roads road : Roads.values()) {
            for (int view = 0; view < Views.MANY; view++) {
                UNTOUCHED[road.ordinal()][view] = Views.of(road.made(), view);
            }
        }
        roadsAreAsNamed();
        set();
        loop();
        bounds();
        come();
        want();
        speed();
        ticks();
        whatThereIs();
        whatIf();
        put();
        carryOut();
        undo();
        slots();
        askingChangesNothing();
        due.end();
    }

    private static void roadsAreAsNamed() {
        LoopListeners busy = Roads.BUSY.made();
        due.is("busy: a car is gone", busy.ofCar(0, 5), 1);
        due.is("busy: a car is over a loop", busy.ofCar(1, 9), 1);
        due.is("busy: the cell 0 is taken", busy.carAt(0, 0), 2);
        due.is("busy: the cell 0 beside is free", busy.carAt(1, 0), LoopListeners.NONE);
        due.is("busy: changes", busy.count(9), 5);
        LoopListeners full = Roads.FULL.made();
        due.is("full: loops", full.count(1), 6);
        due.is("full: cars", full.count(2), 40);
        due.is("full: on the road and gone", full.count(3) > 0 && full.count(4) > 0 ? 1 : 0, 1);
        due.is("full: pad", full.count(8), 60);
        due.is("full: no fault", full.fault(), LoopListeners.NONE);
        due.is("full: changes", full.count(9), 6);
        due.is("full: the cells 0 are taken", full.carAt(0, 0) * 100 + full.carAt(1, 0), 3839);
        LoopListeners crowded = Roads.CROWDED.made();
        due.is("crowded: cars", crowded.count(3), 40);
        due.is("faulty", Roads.FAULTY.made().fault(), 4);
    }

    private static void refused(Roads road, String name, int error, Call call) {
        due.is(name + " of a " + road + " one", call.on(road.made()), error);
        changesNothing(road, name, call);
    }

    private static void changesNothing(Roads road, String name, Call call) {
        for (int view = 0; view < Views.MANY; view++) {
            LoopListeners x = road.made();
            call.on(x);
            due.is("view " + view + " behind " + name + " of a " + road + " one", Views.of(x, view), UNTOUCHED[road.ordinal()][view]);
        }
    }

    private static void refusedByAll(String name, int error, Call call) {
        for (Roads road : Roads.values()) {
            refused(road, name, error, call);
        }
    }

    private static void set() {
        refusedByAll("set(-1, 1)", LoopListeners.BAD_VALUE, x -> x.set(-1, 1));
        refusedByAll("set(2, 1)", LoopListeners.BAD_VALUE, x -> x.set(2, 1));
        refusedByAll("set(ACROSS, -1)", LoopListeners.BAD_VALUE, x -> x.set(LoopListeners.ACROSS, -1));
        refusedByAll("set(ACROSS, 9)", LoopListeners.BAD_VALUE, x -> x.set(LoopListeners.ACROSS, 9));
        refusedByAll("set(TURN, 0)", LoopListeners.BAD_VALUE, x -> x.set(LoopListeners.TURN, 0));
        refusedByAll("set(TURN, 6)", LoopListeners.BAD_VALUE, x -> x.set(LoopListeners.TURN, 6));
    }

    private static void loop() {
        int[][] bad = {
            {-1, 5, 2, 30, 10}, {2, 5, 2, 30, 10}, {0, -1, 2, 30, 10}, {1, 39, 2, 30, 10}, {0, 5, 0, 30, 10}, {0, 5, 4, 30, 10},
            {0, 5, 2, 0, 10}, {0, 5, 2, 201, 10}, {0, 5, 2, 30, 0}, {0, 5, 2, 30, 31}, {-1, -1, -1, -1, -1},
        };
        for (int[] a : bad) {
            // of a full one too: that it is BAD_VALUE is checked ahead of TOO_MANY
            refusedByAll("loop" + java.util.Arrays.toString(a), LoopListeners.BAD_VALUE, x -> x.loop(a[0], a[1], a[2], a[3], a[4]));
        }
        refused(Roads.FULL, "a 7th loop", LoopListeners.TOO_MANY, x -> x.loop(0, 0, 3, 20, 10));
        refused(Roads.FULL, "the least 7th loop", LoopListeners.TOO_MANY, x -> x.loop(0, 0, 1, 1, 1));
        refused(Roads.FULL, "the greatest 7th loop", LoopListeners.TOO_MANY, x -> x.loop(1, 39, 1, 200, 200));
    }

    private static void bounds() {
        refusedByAll("bounds(-1, 20, 10)", LoopListeners.NO_SUCH, x -> x.bounds(-1, 20, 10));
        refusedByAll("bounds(6, 20, 10)", LoopListeners.NO_SUCH, x -> x.bounds(6, 20, 10));
        // that there is no such loop is checked ahead of the bounds
        refusedByAll("bounds(6, 0, 0)", LoopListeners.NO_SUCH, x -> x.bounds(6, 0, 0));
        refused(Roads.NEW, "bounds(0, 20, 10)", LoopListeners.NO_SUCH, x -> x.bounds(0, 20, 10));
        refused(Roads.BUSY, "bounds(2, 20, 10)", LoopListeners.NO_SUCH, x -> x.bounds(2, 20, 10));
        for (Roads road : new Roads[] {Roads.BUSY, Roads.FULL, Roads.FAULTY}) {
            for (int[] a : new int[][] {{0, 10}, {0, 0}, {201, 10}, {20, 0}, {20, 21}, {-1, -1}, {200, 201}}) {
                refused(road, "bounds(0, " + a[0] + ", " + a[1] + ")", LoopListeners.BAD_VALUE, x -> x.bounds(0, a[0], a[1]));
            }
        }
    }

    private static void come() {
        int[][] bad = {
            {-1, 1, 1, 1}, {2, 1, 1, 1}, {0, 0, 1, 1}, {0, 5, 1, 1}, {1, 1, 0, 1}, {1, 1, 5, 1}, {1, 1, 1, 0}, {1, 1, 1, 10}, {9, 9, 9, 10},
        };
        for (int[] a : bad) {
            // of a full one, and where the cell 0 is taken, too: that it is BAD_VALUE is checked first
            refusedByAll("come" + java.util.Arrays.toString(a), LoopListeners.BAD_VALUE, x -> x.come(a[0], a[1], a[2], a[3]));
        }
        refused(Roads.BUSY, "come to a cell that is not free", LoopListeners.NOT_POSSIBLE, x -> x.come(0, 1, 1, 1));
        refused(Roads.FAULTY, "come to a cell that is not free", LoopListeners.NOT_POSSIBLE, x -> x.come(0, 4, 4, 9));
        // forty came, and the cell 0 is taken: TOO_MANY is checked first
        refused(Roads.FULL, "the 41st car", LoopListeners.TOO_MANY, x -> x.come(0, 1, 1, 1));
        refused(Roads.FULL, "the 41st car in the lane 1", LoopListeners.TOO_MANY, x -> x.come(1, 4, 4, 9));
    }

    private static void want() {
        refusedByAll("want(-1)", LoopListeners.NO_SUCH, x -> x.want(-1));
        refusedByAll("want(40)", LoopListeners.NO_SUCH, x -> x.want(40));
        refused(Roads.NEW, "want(0)", LoopListeners.NO_SUCH, x -> x.want(0));
        refused(Roads.BUSY, "want(3)", LoopListeners.NO_SUCH, x -> x.want(3));
        refused(Roads.BUSY, "want of a car that is gone", LoopListeners.NOT_POSSIBLE, x -> x.want(0));
        refused(Roads.FULL, "want of a car that is gone", LoopListeners.NOT_POSSIBLE, x -> x.want(1));
    }

    private static void speed() {
        refusedByAll("speed(-1, 1)", LoopListeners.NO_SUCH, x -> x.speed(-1, 1));
        refusedByAll("speed(40, 1)", LoopListeners.NO_SUCH, x -> x.speed(40, 1));
        // that there is no such car is checked ahead of the speed
        refusedByAll("speed(40, 5)", LoopListeners.NO_SUCH, x -> x.speed(40, 5));
        refused(Roads.NEW, "speed(0, 0)", LoopListeners.NO_SUCH, x -> x.speed(0, 0));
        refused(Roads.BUSY, "speed(3, -1)", LoopListeners.NO_SUCH, x -> x.speed(3, -1));
        for (int speed : new int[] {-1, 5}) {
            refused(Roads.FAULTY, "speed(0, " + speed + ")", LoopListeners.BAD_VALUE, x -> x.speed(0, speed));
            refused(Roads.BUSY, "speed(2, " + speed + ")", LoopListeners.BAD_VALUE, x -> x.speed(2, speed));
            // the car is gone: the speed is checked ahead of that
            refused(Roads.BUSY, "speed(0, " + speed + ")", LoopListeners.BAD_VALUE, x -> x.speed(0, speed));
            refused(Roads.FULL, "speed(0, " + speed + ")", LoopListeners.BAD_VALUE, x -> x.speed(0, speed));
        }
        refused(Roads.BUSY, "speed of a car that is gone", LoopListeners.NOT_POSSIBLE, x -> x.speed(0, 0));
        refused(Roads.FULL, "speed of a car that is gone", LoopListeners.NOT_POSSIBLE, x -> x.speed(0, 4));
    }

    private static void ticks() {
        for (int ticks : new int[] {0, -1, 101, Integer.MIN_VALUE, Integer.MAX_VALUE}) {
            refusedByAll("ticks(" + ticks + ")", LoopListeners.BAD_VALUE, x -> x.ticks(ticks));
        }
    }

    private static void whatThereIs() {
        for (int number : new int[] {-1, 40}) {
            refusedByAll("ofCar(" + number + ", 0)", LoopListeners.NO_SUCH, x -> x.ofCar(number, 0));
            // that there is no such one is checked ahead of what is asked
            refusedByAll("ofCar(" + number + ", 10)", LoopListeners.NO_SUCH, x -> x.ofCar(number, 10));
            refusedByAll("ofLoop(" + number + ", 0)", LoopListeners.NO_SUCH, x -> x.ofLoop(number, 0));
            refusedByAll("ofLoop(" + number + ", -1)", LoopListeners.NO_SUCH, x -> x.ofLoop(number, -1));
            refusedByAll("error(" + number + ")", LoopListeners.NO_SUCH, x -> x.error(number));
            refusedByAll("carAt(0, " + number + ")", LoopListeners.NO_SUCH, x -> x.carAt(0, number));
            refusedByAll("carAt(" + number + ", 0)", LoopListeners.NO_SUCH, x -> x.carAt(number, 0));
        }
        refusedByAll("ofLoop(6, 0)", LoopListeners.NO_SUCH, x -> x.ofLoop(6, 0));
        refusedByAll("error(6)", LoopListeners.NO_SUCH, x -> x.error(6));
        refusedByAll("carAt(2, 0)", LoopListeners.NO_SUCH, x -> x.carAt(2, 0));
        refusedByAll("carAt(1, -1)", LoopListeners.NO_SUCH, x -> x.carAt(1, -1));
        refusedByAll("count(-1)", LoopListeners.BAD_VALUE, x -> x.count(-1));
        refusedByAll("count(12)", LoopListeners.BAD_VALUE, x -> x.count(12));
        for (int what : new int[] {-1, 10}) {
            refused(Roads.BUSY, "ofCar(1, " + what + ")", LoopListeners.BAD_VALUE, x -> x.ofCar(1, what));
            refused(Roads.BUSY, "of a car that is gone: ofCar(0, " + what + ")", LoopListeners.BAD_VALUE, x -> x.ofCar(0, what));
            refused(Roads.BUSY, "ofLoop(1, " + what + ")", LoopListeners.BAD_VALUE, x -> x.ofLoop(1, what));
        }
    }

    private static void whatIf() {
        refusedByAll("inside(0, 6)", LoopListeners.NO_SUCH, x -> x.inside(0, 6));
        refusedByAll("inside(6, 0)", LoopListeners.NO_SUCH, x -> x.inside(6, 0));
        refusedByAll("inside(-1, -1)", LoopListeners.NO_SUCH, x -> x.inside(-1, -1));
        for (int ticks : new int[] {0, 1, 100, 101}) {
            // that there is no such loop is checked ahead of the ticks
            for (int loop : new int[] {-1, 6}) {
                refusedByAll("countsIn(" + loop + ", " + ticks + ")", LoopListeners.NO_SUCH, x -> x.countsIn(loop, ticks));
                refusedByAll("countsAlone(" + loop + ", " + ticks + ")", LoopListeners.NO_SUCH, x -> x.countsAlone(loop, ticks));
                refusedByAll("bestUpper(" + loop + ", " + ticks + ")", LoopListeners.NO_SUCH, x -> x.bestUpper(loop, ticks));
            }
        }
        for (int ticks : new int[] {-1, 0, 101}) {
            refusedByAll("bestTurn(" + ticks + ")", LoopListeners.BAD_VALUE, x -> x.bestTurn(ticks));
            for (Roads road : new Roads[] {Roads.BUSY, Roads.FULL, Roads.FAULTY}) {
                refused(road, "countsIn(0, " + ticks + ")", LoopListeners.BAD_VALUE, x -> x.countsIn(0, ticks));
                refused(road, "countsAlone(0, " + ticks + ")", LoopListeners.BAD_VALUE, x -> x.countsAlone(0, ticks));
                refused(road, "bestUpper(0, " + ticks + ")", LoopListeners.BAD_VALUE, x -> x.bestUpper(0, ticks));
            }
        }
        refusedByAll("goneIn(-1)", LoopListeners.NO_SUCH, x -> x.goneIn(-1));
        refusedByAll("goneIn(40)", LoopListeners.NO_SUCH, x -> x.goneIn(40));
        refused(Roads.BUSY, "goneIn(3)", LoopListeners.NO_SUCH, x -> x.goneIn(3));
    }

    private static void put() {
        for (long bad : new long[] {0, 32, 127, 128, 255, 't' << 8, 't' << 16 | '1', -1, Long.MIN_VALUE, Long.MAX_VALUE, 1L << 63 | 't'}) {
            // of a full one too: that it is BAD_VALUE is checked ahead of TOO_MANY
            refusedByAll("put(" + bad + ")", LoopListeners.BAD_VALUE, x -> x.put(bad));
        }
        refused(Roads.FULL, "a 61st character", LoopListeners.TOO_MANY, x -> x.put(';'));
        refused(Roads.FULL, "eight more characters", LoopListeners.TOO_MANY, x -> x.put(Texts.number("t1;t1;t1")));
    }

    private static void carryOut() {
        refused(Roads.NEW, "carryOut of an empty pad", LoopListeners.BAD_TEXT, LoopListeners::carryOut);
        refused(Roads.FAULTY, "carryOut of a faulty pad", LoopListeners.BAD_TEXT, LoopListeners::carryOut);
    }

    private static void undo() {
        refused(Roads.NEW, "undo of nothing", LoopListeners.NOT_POSSIBLE, LoopListeners::undo);
    }

    private static void slots() {
        for (int slot : new int[] {-1, 2, Integer.MIN_VALUE, Integer.MAX_VALUE}) {
            refusedByAll("save(" + slot + ")", LoopListeners.BAD_VALUE, x -> x.save(slot));
            // nothing was saved in it either: that there is no such slot is checked first
            refusedByAll("restore(" + slot + ")", LoopListeners.BAD_VALUE, x -> x.restore(slot));
        }
        for (Roads road : new Roads[] {Roads.NEW, Roads.FAULTY}) {
            refused(road, "restore(0)", LoopListeners.NOT_POSSIBLE, x -> x.restore(0));
            refused(road, "restore(1)", LoopListeners.NOT_POSSIBLE, x -> x.restore(1));
        }
        refused(Roads.BUSY, "restore(0)", LoopListeners.NOT_POSSIBLE, x -> x.restore(0));
    }

    /** "what if; nothing changes", and neither does what tells what there is. */
    private static void askingChangesNothing() {
        for (Roads road : Roads.values()) {
            changesNothing(road, "ofCar", x -> x.ofCar(0, 9));
            changesNothing(road, "ofLoop", x -> x.ofLoop(0, 8));
            changesNothing(road, "error", x -> x.error(0));
            changesNothing(road, "carAt", x -> x.carAt(0, 0));
            changesNothing(road, "count", x -> x.count(5));
            changesNothing(road, "inside", x -> x.inside(0, 0));
            changesNothing(road, "countsIn", x -> x.countsIn(0, 100));
            changesNothing(road, "countsAlone", x -> x.countsAlone(0, 100));
            changesNothing(road, "bestUpper", x -> x.bestUpper(0, 100));
            changesNothing(road, "bestTurn", x -> x.bestTurn(100));
            changesNothing(road, "goneIn", x -> x.goneIn(0));
            changesNothing(road, "goneIn of the last car", x -> x.goneIn(x.count(2) - 1));
            changesNothing(road, "fault", LoopListeners::fault);
        }
    }
}
