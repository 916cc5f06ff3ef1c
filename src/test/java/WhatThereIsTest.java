/** Promises 9 to 13: ofCar, ofLoop, error, carAt, count. */
public final class WhatThereIsTest {
    private static final Due due = new Due();

    public static void main(String[] args) {
        ofCar();
        ofCarGone();
        ofCarSet();
        ofLoop();
        error();
        carAt();
        count();
        countListener();
        due.end();
    }

    private static void numbersOfCar(LoopListeners x, int car, int... numbers) {
        for (int what = 0; what < numbers.length; what++) {
            due.is("ofCar(" + car + ", " + what + ") in tick " + x.count(0), x.ofCar(car, what), numbers[what]);
        }
    }

    private static void numbersOfLoop(LoopListeners x, int loop, int... numbers) {
        for (int what = 0; what < numbers.length; what++) {
            due.is("ofLoop(" + loop + ", " + what + ") in tick " + x.count(0), x.ofLoop(loop, what), numbers[what]);
        }
    }

    private static void ofCar() {
        LoopListeners x = new LoopListeners();
        due.is("no car, bad what", x.ofCar(0, 10), LoopListeners.NO_SUCH);
        x.loop(1, 0, 1, 100, 100);
        x.loop(0, 2, 2, 100, 100);
        x.come(0, 2, 3, 7);
        x.come(1, 1, 2, 5);
        due.is("car -1", x.ofCar(-1, 0), LoopListeners.NO_SUCH);
        due.is("car 2", x.ofCar(2, 0), LoopListeners.NO_SUCH);
        due.is("car 40", x.ofCar(40, 0), LoopListeners.NO_SUCH);
        due.is("greatest car", x.ofCar(Integer.MAX_VALUE, 0), LoopListeners.NO_SUCH);
        due.is("least car", x.ofCar(Integer.MIN_VALUE, 0), LoopListeners.NO_SUCH);
        due.is("what -1", x.ofCar(0, -1), LoopListeners.BAD_VALUE);
        due.is("what 10", x.ofCar(0, 10), LoopListeners.BAD_VALUE);
        numbersOfCar(x, 0, 0, 0, 2, 3, 7, 0, 0, 0, 0, 0);
        numbersOfCar(x, 1, 1, 0, 1, 2, 5, 0, 0, 0, 0, 1);
        x.want(1);
        x.ticks(1);
        numbersOfCar(x, 0, 0, 3, 2, 3, 7, 0, 0, 0, 0, 2);
        numbersOfCar(x, 1, 0, 0, 1, 2, 5, 0, 0, 1, 0, 0);
        x.speed(0, 1);
        x.speed(1, 4);
        x.ticks(1);
        numbersOfCar(x, 0, 0, 4, 2, 1, 7, 0, 0, 0, 0, 2);
        numbersOfCar(x, 1, 0, 2, 1, 4, 5, 0, 0, 1, 1, 2);
        due.is("asking changes nothing", x.count(9), 6);
    }

    private static void ofCarGone() {
        LoopListeners x = new LoopListeners();
        x.come(0, 1, 4, 3);
        x.come(1, 4, 3, 2);
        x.ticks(9);
        numbersOfCar(x, 0, 0, 36, 1, 4, 3, 0, 0, 0, 0, 0);
        x.speed(1, 0);
        x.ticks(1);
        numbersOfCar(x, 0, 0, 40, 1, 4, 3, 1, 0, 0, 0, 0);
        x.speed(1, 4);
        x.ticks(2);
        numbersOfCar(x, 1, 1, 35, 4, 4, 2, 0, 0, 0, 0, 0);
        x.want(1);
        x.ticks(1);
        numbersOfCar(x, 1, 0, 35, 4, 4, 2, 0, 0, 1, 0, 0);
        x.ticks(1);
        x.come(1, 1, 4, 9);
        x.ticks(1);
        numbersOfCar(x, 1, 0, 43, 4, 4, 2, 1, 0, 1, 0, 0);
        x.ticks(9);
        x.come(0, 2, 4, 1);
        numbersOfCar(x, 2, 1, 40, 1, 4, 9, 1, 0, 0, 0, 0);
        LoopListeners y = new LoopListeners();
        y.loop(1, 39, 1, 200, 200);
        y.come(0, 2, 4, 1);
        y.ticks(9);
        y.speed(0, 3);
        y.ticks(1);
        y.come(1, 2, 4, 1);
        y.ticks(10);
        numbersOfCar(y, 0, 0, 41, 2, 3, 1, 1, 0, 0, 0, 0);
        numbersOfCar(y, 1, 1, 40, 2, 4, 1, 0, 0, 0, 0, 1);
    }

    private static void ofCarSet() {
        LoopListeners x = new LoopListeners();
        for (int i = 0; i < 6; i++) {
            x.loop(0, 2 + i / 2, 1 + i % 3, 100, 100);
        }
        x.come(0, 1, 1, 1);
        int[] sets = {0, 0, 0b000011, 0b001110, 0b110100, 0b110100, 0b100000, 0};
        for (int front = 0; front < sets.length; front++) {
            due.is("set at " + front, x.ofCar(0, 9), sets[front]);
            x.ticks(1);
        }
    }

    private static void ofLoop() {
        LoopListeners x = new LoopListeners();
        due.is("no loop, bad what", x.ofLoop(0, 10), LoopListeners.NO_SUCH);
        x.loop(0, 3, 2, 40, 24);
        x.loop(1, 3, 1, 2, 1);
        due.is("loop -1", x.ofLoop(-1, 0), LoopListeners.NO_SUCH);
        due.is("loop 2", x.ofLoop(2, 0), LoopListeners.NO_SUCH);
        due.is("loop 6", x.ofLoop(6, 0), LoopListeners.NO_SUCH);
        due.is("greatest loop", x.ofLoop(Integer.MAX_VALUE, 0), LoopListeners.NO_SUCH);
        due.is("what -1", x.ofLoop(0, -1), LoopListeners.BAD_VALUE);
        due.is("what 10", x.ofLoop(0, 10), LoopListeners.BAD_VALUE);
        x.come(0, 2, 2, 6);
        x.ticks(2);
        numbersOfLoop(x, 0, 0, 3, 2, 40, 24, 0, 0, 1, 48, 1);
        numbersOfLoop(x, 1, 1, 3, 1, 2, 1, 1, 1, 0, 6, 1);
        x.speed(0, 0);
        x.ticks(1);
        numbersOfLoop(x, 0, 0, 3, 2, 40, 24, 1, 1, 1, 48, 2);
        x.speed(0, 1);
        x.ticks(1);
        numbersOfLoop(x, 0, 0, 3, 2, 40, 24, 1, 1, 1, 24, 2);
        numbersOfLoop(x, 1, 1, 3, 1, 2, 1, 0, 1, 0, 0, 2);
        x.come(1, 1, 3, 9);
        due.is("not yet beside", x.ofLoop(0, 8), 24);
        x.ticks(1);
        numbersOfLoop(x, 0, 0, 3, 2, 40, 24, 0, 1, 1, 9, 3);
        numbersOfLoop(x, 1, 1, 3, 1, 2, 1, 0, 1, 1, 36, 2);
    }

    private static void error() {
        LoopListeners x = new LoopListeners();
        due.is("no loop", x.error(0), LoopListeners.NO_SUCH);
        x.loop(0, 4, 1, 10, 5);
        x.loop(1, 4, 1, 9, 5);
        due.is("loop -1", x.error(-1), LoopListeners.NO_SUCH);
        due.is("loop 2", x.error(2), LoopListeners.NO_SUCH);
        due.is("loop 6", x.error(6), LoopListeners.NO_SUCH);
        due.is("none", x.error(0), 1000);
        x.come(0, 1, 4, 9);
        x.ticks(1);
        x.speed(0, 0);
        due.is("counted and passed", x.error(0), 1000);
        x.ticks(1);
        due.is("counted falsely, by the metal beside", x.error(1), 1001);
        x.set(LoopListeners.TURN, 5);
        x.speed(0, 4);
        x.ticks(20);
        x.come(0, 1, 4, 2);
        x.ticks(20);
        due.is("missed, as the metal is little", x.error(0), 999);
        due.is("still one too many", x.error(1), 1001);
    }

    private static void carAt() {
        LoopListeners x = new LoopListeners();
        due.is("lane -1", x.carAt(-1, 0), LoopListeners.NO_SUCH);
        due.is("lane 2", x.carAt(2, 0), LoopListeners.NO_SUCH);
        due.is("cell -1", x.carAt(0, -1), LoopListeners.NO_SUCH);
        due.is("cell 40", x.carAt(0, 40), LoopListeners.NO_SUCH);
        due.is("cell 40 of lane -1", x.carAt(-1, 40), LoopListeners.NO_SUCH);
        due.is("greatest", x.carAt(Integer.MAX_VALUE, Integer.MAX_VALUE), LoopListeners.NO_SUCH);
        due.is("least", x.carAt(Integer.MIN_VALUE, Integer.MIN_VALUE), LoopListeners.NO_SUCH);
        x.come(0, 3, 4, 1);
        x.come(1, 4, 1, 1);
        due.is("at its front", x.carAt(0, 0), 0);
        due.is("of the other lane", x.carAt(1, 0), 1);
        due.is("ahead of it", x.carAt(0, 1), LoopListeners.NONE);
        x.ticks(1);
        int[] taken = {-6, -6, 0, 0, 0, -6};
        for (int cell = 0; cell < taken.length; cell++) {
            due.is("carAt(0, " + cell + ")", x.carAt(0, cell), taken[cell]);
        }
        due.is("carAt(1, 0)", x.carAt(1, 0), 1);
        due.is("carAt(1, 1)", x.carAt(1, 1), 1);
        due.is("carAt(1, 2)", x.carAt(1, 2), LoopListeners.NONE);
        due.is("a car comes behind", x.come(0, 1, 1, 1), 2);
        due.is("carAt(0, 0)", x.carAt(0, 0), 2);
        x.ticks(9);
        due.is("the last cell", x.carAt(0, 39), 0);
        due.is("the cell 38", x.carAt(0, 38), 0);
        due.is("the cell 37", x.carAt(0, 37), LoopListeners.NONE);
    }

    private static void counts(LoopListeners x, int... numbers) {
        for (int what = 0; what < numbers.length; what++) {
            due.is("count(" + what + ") in tick " + x.count(0), x.count(what), numbers[what]);
        }
    }

    private static void count() {
        LoopListeners x = new LoopListeners();
        due.is("what -1", x.count(-1), LoopListeners.BAD_VALUE);
        due.is("what 12", x.count(12), LoopListeners.BAD_VALUE);
        due.is("greatest what", x.count(Integer.MAX_VALUE), LoopListeners.BAD_VALUE);
        due.is("least what", x.count(Integer.MIN_VALUE), LoopListeners.BAD_VALUE);
        x.loop(0, 1, 3, 10, 10);
        x.loop(0, 2, 3, 10, 10);
        x.come(0, 1, 3, 5);
        x.come(1, 1, 4, 1);
        x.put('t' << 8 | '1');
        counts(x, 0, 2, 2, 2, 0, 0, 0, 0, 2, 4, 1, 1);
        x.ticks(1);
        x.set(LoopListeners.ACROSS, 4);
        x.set(LoopListeners.TURN, 2);
        counts(x, 1, 2, 2, 2, 0, 0, 1, 2, 2, 6, 4, 2);
        x.ticks(9);
        counts(x, 10, 2, 2, 1, 1, 1, 1, 2, 2, 6, 4, 2);
        x.carryOut();
        counts(x, 11, 2, 2, 1, 1, 1, 1, 2, 0, 6, 4, 2);
        x.ticks(100);
        counts(x, 111, 2, 2, 0, 2, 1, 1, 2, 0, 6, 4, 2);
    }

    private static void countListener() {
        LoopListeners x = new LoopListeners();
        due.is("none", x.count(5), LoopListeners.NONE);
        x.ticks(5);
        due.is("none as yet", x.count(5), LoopListeners.NONE);
        x.loop(0, 0, 1, 1, 1);
        due.is("the only one", x.count(5), 0);
        x.loop(0, 0, 1, 1, 1);
        due.is("5 of 2", x.count(5), 1);
        x.loop(0, 0, 1, 1, 1);
        due.is("5 of 3", x.count(5), 2);
        x.set(LoopListeners.TURN, 5);
        due.is("5 / 5 of 3", x.count(5), 1);
        x.ticks(4);
        due.is("9 / 5 of 3", x.count(5), 1);
        x.ticks(1);
        due.is("10 / 5 of 3", x.count(5), 2);
    }
}
