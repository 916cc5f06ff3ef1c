/** Promises 24 to 26: undo, save, restore. */
public final class UndoSavingTest {
    private static final Due due = new Due();

    public static void main(String[] args) {
        undoEachChange();
        undoSix();
        undoAndGoOn();
        undoAndAnew();
        undoLeavesPadAndSlots();
        errorsRecordNothing();
        save();
        restore();
        restoreIsAChange();
        twoSlots();
        due.end();
    }

    private static void undoEachChange() {
        LoopListeners x = new LoopListeners();
        due.is("none", x.undo(), LoopListeners.NOT_POSSIBLE);
        x.loop(0, 3, 1, 20, 10);
        x.come(0, 1, 3, 9);
        x.want(0);
        x.speed(0, 2);
        x.set(LoopListeners.ACROSS, 5);
        x.bounds(0, 30, 15);
        due.is("bounds", x.undo(), 5);
        due.is("upper", x.ofLoop(0, 3), 20);
        due.is("lower", x.ofLoop(0, 4), 10);
        due.is("set", x.undo(), 4);
        due.is("ACROSS", x.count(10), 1);
        due.is("speed", x.undo(), 3);
        due.is("its speed", x.ofCar(0, 3), 3);
        due.is("want", x.undo(), 2);
        due.is("its wish", x.ofCar(0, 6), 0);
        x.ticks(1);
        due.is("over the loop", x.ofLoop(0, 6) * 10 + x.ofLoop(0, 7), 11);
        due.is("ticks", x.undo(), 2);
        due.is("tick", x.count(0), 0);
        due.is("front", x.ofCar(0, 1), 0);
        due.is("the cell 0", x.carAt(0, 0), 0);
        due.is("the cell 3", x.carAt(0, 3), LoopListeners.NONE);
        due.is("off", x.ofLoop(0, 5), 0);
        due.is("counted", x.ofLoop(0, 6), 0);
        due.is("passings", x.ofLoop(0, 7), 0);
        due.is("listened", x.ofLoop(0, 9), 0);
        x.ticks(1);
        due.is("all again", x.ofLoop(0, 6) * 10 + x.ofLoop(0, 7), 11);
        x.undo();
        due.is("come", x.undo(), 1);
        due.is("no car", x.ofCar(0, 0), LoopListeners.NO_SUCH);
        due.is("its cell is free", x.carAt(0, 0), LoopListeners.NONE);
        due.is("loop", x.undo(), 0);
        due.is("no loop", x.ofLoop(0, 0), LoopListeners.NO_SUCH);
        due.is("none is left", x.undo(), LoopListeners.NOT_POSSIBLE);
        due.is("a car comes anew", x.come(0, 2, 1, 1), 0);
        due.is("with a length of its own", x.ofCar(0, 2), 2);
        due.is("that has not changed its lane", x.ofCar(0, 7), 0);
        x.ticks(100);
        due.is("gone", x.ofCar(0, 5), 1);
        x.undo();
        x.undo();
        x.come(0, 1, 1, 1);
        due.is("another one with its number is not gone", x.ofCar(0, 5), 0);
    }

    private static void undoSix() {
        LoopListeners x = new LoopListeners();
        for (int i = 1; i <= 6; i++) {
            x.ticks(i);
            due.is("recorded", x.count(9), i);
        }
        x.ticks(7);
        due.is("six at most", x.count(9), 6);
        x.ticks(8);
        due.is("six still", x.count(9), 6);
        int[] ticks = {28, 21, 15, 10, 6, 3};
        for (int i = 0; i < 6; i++) {
            due.is("undo", x.undo(), 5 - i);
            due.is("tick", x.count(0), ticks[i]);
            due.is("left", x.count(9), 5 - i);
        }
        due.is("the oldest ones were dropped", x.undo(), LoopListeners.NOT_POSSIBLE);
        due.is("tick", x.count(0), 3);
        for (int i = 0; i < 6; i++) {
            x.ticks(1);
        }
        due.is("an error with a full history", x.ticks(0), LoopListeners.BAD_VALUE);
        for (int i = 0; i < 6; i++) {
            due.is("undo", x.undo(), 5 - i);
        }
        due.is("the oldest one is still there", x.count(0), 3);
    }

    private static void undoAndGoOn() {
        LoopListeners x = new LoopListeners();
        for (int i = 0; i < 6; i++) {
            x.ticks(1);
        }
        x.undo();
        x.undo();
        x.ticks(10);
        due.is("recorded", x.count(9), 5);
        x.ticks(10);
        due.is("recorded then", x.count(9), 6);
        x.ticks(10);
        int[] ticks = {24, 14, 4, 3, 2, 1};
        for (int i = 0; i < 6; i++) {
            due.is("undo", x.undo(), 5 - i);
            due.is("tick", x.count(0), ticks[i]);
        }
        due.is("no more", x.undo(), LoopListeners.NOT_POSSIBLE);
    }

    private static void undoAndAnew() {
        LoopListeners x = new LoopListeners();
        x.save(0);
        x.loop(1, 3, 2, 9, 3);
        x.come(0, 3, 3, 5);
        x.come(1, 1, 2, 7);
        x.speed(1, 0);
        x.ticks(1);
        x.speed(0, 0);
        x.speed(1, 4);
        x.want(0);
        x.ticks(1);
        x.want(1);
        x.ticks(1);
        x.want(0);
        x.save(1);
        int[] ofCar0 = {1, 3, 3, 0, 5, 0, 1, 1, 0, 1};
        int[] ofCar1 = {0, 0, 1, 4, 7, 0, 0, 1, 1, 0};
        int[] ofLoop0 = {1, 3, 2, 9, 3, 1, 1, 1, 20, 3};
        int[] counts = {3, 1, 2, 2, 0, 0, 1, 1};
        numbers(x, counts, ofCar0, ofCar1, ofLoop0);
        x.restore(0);
        due.is("no cars", x.count(2), 0);
        due.is("no loops", x.count(1), 0);
        x.loop(0, 0, 1, 200, 200);
        x.come(0, 1, 1, 1);
        x.come(1, 1, 1, 1);
        numbers(x, new int[] {0, 1, 2, 2, 0, 0, 0, 0}, new int[] {0, 0, 1, 1, 1, 0, 0, 0, 0, 1},
            new int[] {1, 0, 1, 1, 1, 0, 0, 0, 0, 0}, new int[] {0, 0, 1, 200, 200, 0, 0, 0, 5, 0});
        x.speed(0, 0);
        x.ticks(1);
        due.is("a passing of the car that came anew", x.ofLoop(0, 7), 1);
        x.restore(1);
        numbers(x, counts, ofCar0, ofCar1, ofLoop0);
        x.undo();
        x.restore(1);
        x.ticks(100);
        x.undo();
        numbers(x, counts, ofCar0, ofCar1, ofLoop0);
    }

    private static void numbers(LoopListeners x, int[] counts, int[] ofCar0, int[] ofCar1, int[] ofLoop0) {
        for (int what = 0; what < counts.length; what++) {
            due.is("count(" + what + ")", x.count(what), counts[what]);
        }
        for (int what = 0; what < 10; what++) {
            due.is("ofCar(0, " + what + ")", x.ofCar(0, what), ofCar0[what]);
            due.is("ofCar(1, " + what + ")", x.ofCar(1, what), ofCar1[what]);
            due.is("ofLoop(0, " + what + ")", x.ofLoop(0, what), ofLoop0[what]);
        }
    }

    private static void undoLeavesPadAndSlots() {
        LoopListeners x = new LoopListeners();
        x.ticks(4);
        x.put(Texts.number("t5"));
        x.save(0);
        due.is("undo", x.undo(), 0);
        due.is("tick", x.count(0), 0);
        due.is("the pad", x.count(8), 2);
        due.is("the slot", x.restore(0), 4);
        due.is("undo the restoring", x.undo(), 0);
        due.is("the pad is carried out", x.carryOut(), 1);
        due.is("tick then", x.count(0), 5);
        x.put('w');
        due.is("undo the carrying out", x.undo(), 0);
        due.is("the pad has what was put since", x.count(8), 1);
    }

    private static void errorsRecordNothing() {
        LoopListeners x = new LoopListeners();
        x.come(0, 1, 1, 1);
        x.set(0, 9);
        x.loop(0, 0, 0, 0, 0);
        x.bounds(0, 1, 1);
        x.come(0, 1, 1, 1);
        x.want(1);
        x.speed(0, 9);
        x.ticks(0);
        x.carryOut();
        x.restore(0);
        x.restore(2);
        due.is("recorded", x.count(9), 1);
        x.put(Texts.number("t1"));
        x.fault();
        x.wipe();
        x.save(0);
        x.save(2);
        due.is("neither do calls that are no change", x.count(9), 1);
        due.is("undo", x.undo(), 0);
        due.is("the car is undone", x.count(2), 0);
        x.ticks(1);
        x.set(0, 1);
        due.is("a change that makes nothing different", x.count(9), 2);
        due.is("undo then", x.undo(), 1);
        due.is("tick", x.count(0), 1);
        due.is("undo the ticks", x.undo(), 0);
        due.is("no tick", x.count(0), 0);
    }

    private static void save() {
        LoopListeners x = new LoopListeners();
        due.is("slot -1", x.save(-1), LoopListeners.BAD_VALUE);
        due.is("slot 2", x.save(2), LoopListeners.BAD_VALUE);
        due.is("greatest slot", x.save(Integer.MAX_VALUE), LoopListeners.BAD_VALUE);
        due.is("least slot", x.save(Integer.MIN_VALUE), LoopListeners.BAD_VALUE);
        due.is("slot 0", x.save(0), 0);
        x.ticks(12);
        due.is("slot 1", x.save(1), 12);
        due.is("over slot 0", x.save(0), 12);
        x.ticks(1);
        due.is("no change", x.count(9), 2);
        due.is("restore what was saved last", x.restore(0), 12);
    }

    private static void restore() {
        LoopListeners x = new LoopListeners();
        due.is("slot -1", x.restore(-1), LoopListeners.BAD_VALUE);
        due.is("slot 2", x.restore(2), LoopListeners.BAD_VALUE);
        due.is("nothing in 0", x.restore(0), LoopListeners.NOT_POSSIBLE);
        due.is("nothing in 1", x.restore(1), LoopListeners.NOT_POSSIBLE);
        x.loop(0, 2, 2, 9, 3);
        x.set(LoopListeners.TURN, 3);
        x.set(LoopListeners.ACROSS, 7);
        x.come(0, 2, 2, 6);
        x.ticks(1);
        x.want(0);
        x.save(0);
        x.put('t');
        x.ticks(100);
        x.come(1, 3, 1, 1);
        x.come(0, 1, 1, 1);
        x.bounds(0, 100, 100);
        x.loop(1, 0, 1, 5, 5);
        x.set(LoopListeners.TURN, 1);
        due.is("restore", x.restore(0), 1);
        int[] counts = {1, 1, 1, 1, 0, 0, 1, 1, 1, 6, 7, 3};
        for (int what = 0; what < counts.length; what++) {
            due.is("count(" + what + ")", x.count(what), counts[what]);
        }
        int[] car = {0, 2, 2, 2, 6, 0, 1, 0, 0, 1};
        int[] loop = {0, 2, 2, 9, 3, 1, 1, 1, 24, 1};
        for (int what = 0; what < 10; what++) {
            due.is("ofCar(0, " + what + ")", x.ofCar(0, what), car[what]);
            due.is("ofLoop(0, " + what + ")", x.ofLoop(0, what), loop[what]);
        }
        due.is("the cell 1", x.carAt(0, 1), 0);
        due.is("the cell 0", x.carAt(0, 0), LoopListeners.NONE);
        due.is("the cell 0 beside", x.carAt(1, 0), LoopListeners.NONE);
        x.ticks(5);
        due.is("no passing anew, as it changed its lane", x.ofLoop(0, 7), 1);
        due.is("the slot keeps it", x.restore(0), 1);
        due.is("front", x.ofCar(0, 1), 2);
        due.is("lane", x.ofCar(0, 0), 0);
        x.want(0);
        x.speed(0, 1);
        x.ticks(1);
        due.is("still over it, this is no passing", x.ofLoop(0, 7), 1);
    }

    private static void restoreIsAChange() {
        LoopListeners x = new LoopListeners();
        x.ticks(3);
        x.save(1);
        x.ticks(4);
        due.is("restore", x.restore(1), 3);
        due.is("recorded", x.count(9), 3);
        due.is("undo", x.undo(), 2);
        due.is("tick", x.count(0), 7);
        for (int i = 0; i < 7; i++) {
            x.restore(1);
        }
        due.is("six at most", x.count(9), 6);
        x.undo();
        due.is("as it was before the last one", x.count(0), 3);
    }

    private static void twoSlots() {
        LoopListeners x = new LoopListeners();
        x.ticks(1);
        x.save(0);
        x.ticks(1);
        due.is("only slot 0", x.restore(1), LoopListeners.NOT_POSSIBLE);
        x.save(1);
        due.is("slot 0", x.restore(0), 1);
        due.is("slot 1", x.restore(1), 2);
        x.ticks(50);
        due.is("slot 0 still", x.restore(0), 1);
        due.is("slot 1 still", x.restore(1), 2);
        LoopListeners y = new LoopListeners();
        due.is("another object's slots are its own", y.restore(0), LoopListeners.NOT_POSSIBLE);
    }
}
