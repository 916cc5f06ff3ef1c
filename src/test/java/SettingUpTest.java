/** Promises 1 to 4: a new object, set, loop, bounds. */
public final class SettingUpTest {
    private static final Due due = new Due();

    public static void main(String[] args) {
        newObject();
        settings();
        settingsWork();
        loopArguments();
        sevenLoops();
        loopUnderCars();
        loopsOverOneAnother();
        bounds();
        boundsWork();
        due.end();
    }

    private static void newObject() {
        LoopListeners x = new LoopListeners();
        int[] counts = {0, 0, 0, 0, 0, LoopListeners.NONE, 0, 0, 0, 0, 1, 1};
        for (int what = 0; what < counts.length; what++) {
            due.is("new count(" + what + ")", x.count(what), counts[what]);
        }
        for (int lane = 0; lane < 2; lane++) {
            for (int cell = 0; cell < 40; cell++) {
                due.is("new carAt(" + lane + ", " + cell + ")", x.carAt(lane, cell), LoopListeners.NONE);
            }
        }
        due.is("new ofCar", x.ofCar(0, 0), LoopListeners.NO_SUCH);
        due.is("new ofLoop", x.ofLoop(0, 0), LoopListeners.NO_SUCH);
        due.is("new fault", x.fault(), 0);
        due.is("new undo", x.undo(), LoopListeners.NOT_POSSIBLE);
        due.is("new restore 0", x.restore(0), LoopListeners.NOT_POSSIBLE);
        due.is("new restore 1", x.restore(1), LoopListeners.NOT_POSSIBLE);
    }

    private static void settings() {
        LoopListeners x = new LoopListeners();
        due.is("set ACROSS 0", x.set(LoopListeners.ACROSS, 0), 1);
        due.is("set ACROSS 8", x.set(LoopListeners.ACROSS, 8), 0);
        due.is("set ACROSS 9", x.set(LoopListeners.ACROSS, 9), LoopListeners.BAD_VALUE);
        due.is("set ACROSS -1", x.set(LoopListeners.ACROSS, -1), LoopListeners.BAD_VALUE);
        due.is("set TURN 5", x.set(LoopListeners.TURN, 5), 1);
        due.is("set TURN 1", x.set(LoopListeners.TURN, 1), 5);
        due.is("set TURN 0", x.set(LoopListeners.TURN, 0), LoopListeners.BAD_VALUE);
        due.is("set TURN 6", x.set(LoopListeners.TURN, 6), LoopListeners.BAD_VALUE);
        due.is("set 2", x.set(2, 1), LoopListeners.BAD_VALUE);
        due.is("set -1", x.set(-1, 1), LoopListeners.BAD_VALUE);
        due.is("set least", x.set(Integer.MIN_VALUE, Integer.MAX_VALUE), LoopListeners.BAD_VALUE);
        due.is("ACROSS then", x.count(10), 8);
        due.is("TURN then", x.count(11), 1);
        due.is("changes recorded", x.count(9), 4);
    }

    private static void settingsWork() {
        LoopListeners x = new LoopListeners();
        x.loop(0, 0, 1, 200, 200);
        x.loop(1, 0, 1, 200, 200);
        x.come(0, 1, 1, 9);
        due.is("strength on", x.ofLoop(0, 8), 36);
        due.is("strength beside by 1", x.ofLoop(1, 8), 9);
        x.set(LoopListeners.ACROSS, 8);
        due.is("strength beside by 8", x.ofLoop(1, 8), 72);
        due.is("strength on, nothing beside", x.ofLoop(0, 8), 36);
        x.set(LoopListeners.ACROSS, 0);
        due.is("strength beside by 0", x.ofLoop(1, 8), 0);
        x.set(LoopListeners.TURN, 3);
        x.ticks(3);
        due.is("loop 0 listens three ticks", x.ofLoop(0, 9), 3);
        due.is("then it is the turn of loop 1", x.count(5), 1);
        x.ticks(3);
        due.is("loop 1 listens three ticks", x.ofLoop(1, 9), 3);
        due.is("then it is the turn of loop 0 again", x.count(5), 0);
    }

    private static void loopArguments() {
        LoopListeners x = new LoopListeners();
        int[][] bad = {
            {-1, 0, 1, 1, 1}, {2, 0, 1, 1, 1}, {0, -1, 1, 1, 1}, {0, 40, 1, 1, 1}, {0, 39, 2, 1, 1}, {0, 38, 3, 1, 1},
            {0, 0, 0, 1, 1}, {0, 0, 4, 1, 1}, {0, 0, 1, 0, 0}, {0, 0, 1, 0, 1}, {0, 0, 1, 201, 1}, {0, 0, 1, 10, 0},
            {0, 0, 1, 10, 11}, {0, Integer.MAX_VALUE, 3, 1, 1}, {0, Integer.MIN_VALUE, 1, 1, 1},
            {0, 0, Integer.MAX_VALUE, 1, 1}, {0, 1, Integer.MIN_VALUE, 1, 1}, {0, 0, 1, 10, Integer.MIN_VALUE},
        };
        for (int[] a : bad) {
            due.is("bad loop " + java.util.Arrays.toString(a), x.loop(a[0], a[1], a[2], a[3], a[4]), LoopListeners.BAD_VALUE);
        }
        due.is("no loop laid", x.count(1), 0);
        int[][] good = {{0, 0, 1, 1, 1}, {1, 39, 1, 200, 200}, {0, 38, 2, 200, 1}, {1, 37, 3, 2, 1}};
        for (int number = 0; number < good.length; number++) {
            int[] a = good[number];
            due.is("loop " + number, x.loop(a[0], a[1], a[2], a[3], a[4]), number);
            for (int what = 0; what < 5; what++) {
                due.is("ofLoop(" + number + ", " + what + ")", x.ofLoop(number, what), a[what]);
            }
            for (int what = 5; what < 10; what++) {
                due.is("ofLoop(" + number + ", " + what + ")", x.ofLoop(number, what), 0);
            }
        }
        due.is("loops laid", x.count(1), 4);
        due.is("changes recorded", x.count(9), 4);
    }

    private static void sevenLoops() {
        LoopListeners x = new LoopListeners();
        for (int number = 0; number < 6; number++) {
            due.is("loop " + number, x.loop(number % 2, 5 * number, 2, 50, 20), number);
        }
        due.is("the 7th, bad", x.loop(2, 0, 1, 1, 1), LoopListeners.BAD_VALUE);
        due.is("the 7th", x.loop(0, 0, 1, 1, 1), LoopListeners.TOO_MANY);
        due.is("loops", x.count(1), 6);
        due.is("no 7th", x.ofLoop(6, 0), LoopListeners.NO_SUCH);
        x.ticks(7);
        for (int number = 0; number < 6; number++) {
            due.is("listened " + number, x.ofLoop(number, 9), number == 0 ? 2 : 1);
        }
        x.undo();
        x.undo();
        due.is("the 6th again", x.loop(0, 0, 1, 1, 1), 5);
    }

    private static void loopUnderCars() {
        LoopListeners x = new LoopListeners();
        x.come(0, 2, 1, 1);
        due.is("loop under a car", x.loop(0, 0, 2, 200, 200), 0);
        due.is("loop ahead of a car", x.loop(0, 1, 2, 200, 200), 1);
        due.is("over the first only", x.ofCar(0, 9), 1);
        x.ticks(1);
        due.is("over both", x.ofCar(0, 9), 3);
        due.is("no passing of the first", x.ofLoop(0, 7), 0);
        due.is("a passing of the second", x.ofLoop(1, 7), 1);
        x.ticks(40);
        due.is("gone", x.ofCar(0, 5), 1);
        due.is("no passing of the first later", x.ofLoop(0, 7), 0);
        due.is("one passing of the second", x.ofLoop(1, 7), 1);
        x.come(0, 2, 1, 1);
        x.ticks(1);
        due.is("the next car passes the first", x.ofLoop(0, 7), 1);
    }

    private static void loopsOverOneAnother() {
        LoopListeners x = new LoopListeners();
        x.loop(1, 4, 2, 10, 5);
        x.loop(1, 4, 2, 10, 5);
        x.loop(1, 5, 3, 10, 5);
        x.come(1, 1, 4, 3);
        x.ticks(1);
        due.is("over two", x.ofCar(0, 9), 3);
        due.is("passings", x.count(7), 2);
        x.speed(0, 1);
        x.ticks(1);
        due.is("over three", x.ofCar(0, 9), 7);
        due.is("passings then", x.count(7), 3);
        x.ticks(1);
        due.is("over the last", x.ofCar(0, 9), 4);
    }

    private static void bounds() {
        LoopListeners x = new LoopListeners();
        due.is("no loop, bad bounds", x.bounds(0, 0, 0), LoopListeners.NO_SUCH);
        x.loop(0, 0, 1, 30, 10);
        due.is("loop -1", x.bounds(-1, 1, 1), LoopListeners.NO_SUCH);
        due.is("loop 1", x.bounds(1, 1, 1), LoopListeners.NO_SUCH);
        due.is("upper 0", x.bounds(0, 0, 1), LoopListeners.BAD_VALUE);
        due.is("upper 201", x.bounds(0, 201, 1), LoopListeners.BAD_VALUE);
        due.is("lower 0", x.bounds(0, 30, 0), LoopListeners.BAD_VALUE);
        due.is("lower above upper", x.bounds(0, 30, 31), LoopListeners.BAD_VALUE);
        due.is("nothing changed: upper", x.ofLoop(0, 3), 30);
        due.is("nothing changed: lower", x.ofLoop(0, 4), 10);
        due.is("greatest", x.bounds(0, 200, 200), 30);
        due.is("widest", x.bounds(0, 200, 1), 200);
        due.is("least", x.bounds(0, 1, 1), 200);
        due.is("upper then", x.ofLoop(0, 3), 1);
        due.is("lower then", x.ofLoop(0, 4), 1);
        due.is("changes recorded", x.count(9), 4);
    }

    private static void boundsWork() {
        LoopListeners x = new LoopListeners();
        x.loop(0, 0, 1, 37, 20);
        x.come(0, 1, 1, 9);
        x.speed(0, 0);
        x.ticks(1);
        due.is("36 is below 37", x.ofLoop(0, 5), 0);
        x.bounds(0, 36, 20);
        due.is("off until it listens", x.ofLoop(0, 5), 0);
        x.ticks(1);
        due.is("36 is at least 36", x.ofLoop(0, 5), 1);
        due.is("counted", x.ofLoop(0, 6), 1);
        x.bounds(0, 36, 36);
        x.ticks(1);
        due.is("36 is not less than 36", x.ofLoop(0, 5), 1);
        x.bounds(0, 37, 37);
        due.is("on until it listens", x.ofLoop(0, 5), 1);
        x.ticks(1);
        due.is("36 is less than 37", x.ofLoop(0, 5), 0);
        x.ticks(1);
        due.is("it stays off", x.ofLoop(0, 6), 1);
        x.bounds(0, 20, 5);
        x.ticks(3);
        due.is("on again, counted once more", x.ofLoop(0, 6), 2);
    }
}
