/** Promises 5 to 8: come, want, speed, ticks. */
public final class CarsTest {
    private static final Due due = new Due();

    public static void main(String[] args) {
        comeArguments();
        comeOnlyToAFreeCell();
        fortyCars();
        want();
        wantNeedsAllCellsFree();
        wantAtTheEndsOfTheRoad();
        speed();
        ticks();
        movingUp();
        foremostFirst();
        lowerNumberFirst();
        orderAsAheadOfTheTick();
        fortyOnTheRoad();
        leaving();
        passings();
        switching();
        due.end();
    }

    private static void comeArguments() {
        LoopListeners x = new LoopListeners();
        int[][] bad = {
            {-1, 1, 1, 1}, {2, 1, 1, 1}, {0, 0, 1, 1}, {0, 5, 1, 1}, {0, 1, 0, 1}, {0, 1, 5, 1}, {0, 1, 1, 0}, {0, 1, 1, 10},
            {Integer.MAX_VALUE, 1, 1, 1}, {0, Integer.MIN_VALUE, 1, 1}, {0, 1, Integer.MAX_VALUE, 1}, {0, 1, 1, Integer.MIN_VALUE},
        };
        for (int[] a : bad) {
            due.is("bad come " + java.util.Arrays.toString(a), x.come(a[0], a[1], a[2], a[3]), LoopListeners.BAD_VALUE);
        }
        due.is("no car came", x.count(2), 0);
        due.is("nothing recorded", x.count(9), 0);
        due.is("least", x.come(0, 1, 1, 1), 0);
        due.is("greatest", x.come(1, 4, 4, 9), 1);
        int[][] numbers = {{0, 0, 1, 1, 1, 0, 0, 0, 0, 0}, {1, 0, 4, 4, 9, 0, 0, 0, 0, 0}};
        for (int car = 0; car < 2; car++) {
            for (int what = 0; what < 10; what++) {
                due.is("ofCar(" + car + ", " + what + ")", x.ofCar(car, what), numbers[car][what]);
            }
        }
        due.is("recorded", x.count(9), 2);
    }

    private static void comeOnlyToAFreeCell() {
        LoopListeners x = new LoopListeners();
        x.come(0, 3, 2, 1);
        due.is("taken", x.come(0, 1, 1, 1), LoopListeners.NOT_POSSIBLE);
        due.is("taken, but bad", x.come(0, 1, 1, 10), LoopListeners.BAD_VALUE);
        due.is("the other lane", x.come(1, 1, 1, 1), 1);
        x.ticks(1);
        due.is("still under its last cell", x.come(0, 1, 1, 1), LoopListeners.NOT_POSSIBLE);
        due.is("left by the short one", x.come(1, 1, 1, 1), 2);
        x.ticks(1);
        due.is("left by the long one", x.come(0, 1, 1, 1), 3);
        due.is("recorded", x.count(9), 6);
    }

    private static void fortyCars() {
        LoopListeners x = new LoopListeners();
        for (int car = 0; car < 40; car++) {
            due.is("car", x.come(car % 2, 1, 4, 1), car);
            x.ticks(1);
        }
        due.is("the 41st, bad", x.come(0, 0, 1, 1), LoopListeners.BAD_VALUE);
        due.is("the 41st", x.come(0, 1, 1, 1), LoopListeners.TOO_MANY);
        x.speed(39, 0);
        due.is("cars", x.count(2), 40);
        due.is("no 41st", x.ofCar(40, 0), LoopListeners.NO_SUCH);
        x.ticks(30);
        due.is("the last one stays", x.count(3), 1);
        due.is("too many, though few are on the road", x.come(0, 1, 1, 1), LoopListeners.TOO_MANY);
        x.undo();
        x.undo();
        x.undo();
        x.undo();
        due.is("39 came again", x.count(2), 39);
        due.is("the 40th again", x.come(1, 4, 1, 9), 39);
        due.is("too many ahead of a cell that is not free", x.come(1, 1, 1, 1), LoopListeners.TOO_MANY);
    }

    private static void want() {
        LoopListeners x = new LoopListeners();
        due.is("no car", x.want(0), LoopListeners.NO_SUCH);
        due.is("car -1", x.want(-1), LoopListeners.NO_SUCH);
        due.is("car 40", x.want(40), LoopListeners.NO_SUCH);
        due.is("nothing recorded", x.count(9), 0);
        x.come(0, 2, 3, 1);
        due.is("wants", x.want(0), 1);
        due.is("ofCar wants", x.ofCar(0, 6), 1);
        due.is("wants no more", x.want(0), 0);
        x.ticks(1);
        due.is("it moves on", x.ofCar(0, 1), 3);
        due.is("wants again", x.want(0), 1);
        x.ticks(1);
        due.is("it is in the other lane", x.ofCar(0, 0), 1);
        due.is("and did not move on", x.ofCar(0, 1), 3);
        due.is("it did so once", x.ofCar(0, 7), 1);
        due.is("this is no waiting", x.ofCar(0, 8), 0);
        due.is("wants nothing more", x.ofCar(0, 6), 0);
        due.is("takes its cells there: front", x.carAt(1, 3), 0);
        due.is("takes its cells there: last", x.carAt(1, 2), 0);
        due.is("no more there", x.carAt(1, 4), LoopListeners.NONE);
        due.is("leaves its cells: front", x.carAt(0, 3), LoopListeners.NONE);
        due.is("leaves its cells: last", x.carAt(0, 2), LoopListeners.NONE);
        x.ticks(1);
        due.is("it stays in the lane", x.ofCar(0, 0), 1);
        due.is("and moves on", x.ofCar(0, 1), 6);
        x.want(0);
        x.ticks(1);
        due.is("back again", x.ofCar(0, 0), 0);
        due.is("twice", x.ofCar(0, 7), 2);
        x.want(0);
        x.come(1, 1, 1, 1);
        x.speed(0, 4);
        x.ticks(100);
        due.is("gone", x.ofCar(0, 5), 1);
        due.is("a car that is gone", x.want(0), LoopListeners.NOT_POSSIBLE);
    }

    private static void wantNeedsAllCellsFree() {
        LoopListeners x = new LoopListeners();
        x.come(0, 3, 4, 1);
        x.ticks(1);
        x.speed(0, 1);
        x.come(1, 1, 2, 1);
        x.ticks(1);
        x.speed(1, 1);
        due.is("front of 0", x.ofCar(0, 1), 5);
        due.is("front of 1", x.ofCar(1, 1), 2);
        x.speed(0, 0);
        x.want(0);
        x.speed(1, 1);
        x.ticks(1);
        due.is("beside its last cell: 0 was first, and changed while 1 was behind it", x.ofCar(0, 0), 1);
        due.is("1 waits behind it", x.ofCar(1, 1), 2);
        due.is("1 waited once", x.ofCar(1, 8), 1);
        LoopListeners y = new LoopListeners();
        y.come(0, 3, 4, 1);
        y.come(1, 1, 3, 1);
        y.ticks(1);
        y.speed(0, 0);
        y.speed(1, 0);
        due.is("fronts", y.ofCar(0, 1) * 10 + y.ofCar(1, 1), 43);
        y.want(0);
        y.ticks(1);
        due.is("one cell beside is taken", y.ofCar(0, 0), 0);
        due.is("it still wants", y.ofCar(0, 6), 1);
        y.speed(0, 1);
        y.ticks(2);
        due.is("it moved on to be free of it, behind its last cell", y.ofCar(0, 1), 6);
        due.is("in its lane as yet", y.ofCar(0, 0), 0);
        y.ticks(1);
        due.is("it changed", y.ofCar(0, 0), 1);
        due.is("at the same front", y.ofCar(0, 1), 6);
        LoopListeners z = new LoopListeners();
        z.come(0, 4, 1, 1);
        z.come(1, 1, 1, 1);
        z.want(1);
        z.ticks(3);
        due.is("from the lane 1 there is no room either", z.ofCar(1, 0), 1);
        due.is("so that it moves on beside", z.ofCar(1, 1), 3);
        z.speed(0, 0);
        z.ticks(2);
        due.is("ahead of the other one there is room", z.ofCar(1, 0), 0);
        due.is("one cell ahead", z.ofCar(1, 1), 4);
    }

    private static void wantAtTheEndsOfTheRoad() {
        LoopListeners x = new LoopListeners();
        x.come(0, 4, 4, 1);
        x.want(0);
        x.ticks(1);
        due.is("a long car changes at the cell 0", x.ofCar(0, 0), 1);
        due.is("takes the cell 0 there", x.carAt(1, 0), 0);
        due.is("the cell 0 is left", x.come(0, 1, 1, 1), 1);
        x.ticks(10);
        due.is("front", x.ofCar(0, 1), 40);
        x.want(0);
        x.ticks(1);
        due.is("a long car changes beyond 39", x.ofCar(0, 0), 0);
        due.is("cells there: 37", x.carAt(0, 37), 0);
        due.is("cells there: 39", x.carAt(0, 39), 0);
        due.is("cells left", x.carAt(1, 39), LoopListeners.NONE);
        due.is("front as it was", x.ofCar(0, 1), 40);
        x.want(0);
        x.ticks(1);
        x.want(0);
        due.is("thrice", x.ofCar(0, 7), 3);
        due.is("wants again", x.ofCar(0, 6), 1);
        x.undo();
        x.ticks(1);
        due.is("gone", x.ofCar(0, 5), 1);
    }

    private static void speed() {
        LoopListeners x = new LoopListeners();
        due.is("no car, bad speed", x.speed(0, 5), LoopListeners.NO_SUCH);
        x.come(0, 1, 3, 1);
        due.is("car -1", x.speed(-1, 1), LoopListeners.NO_SUCH);
        due.is("car 1", x.speed(1, 1), LoopListeners.NO_SUCH);
        due.is("speed -1", x.speed(0, -1), LoopListeners.BAD_VALUE);
        due.is("speed 5", x.speed(0, 5), LoopListeners.BAD_VALUE);
        due.is("nothing recorded", x.count(9), 1);
        due.is("speed 0", x.speed(0, 0), 3);
        due.is("ofCar speed", x.ofCar(0, 3), 0);
        x.ticks(2);
        due.is("it stands", x.ofCar(0, 1), 0);
        due.is("and does not wait", x.ofCar(0, 8), 0);
        due.is("speed 4", x.speed(0, 4), 0);
        x.ticks(2);
        due.is("it moves", x.ofCar(0, 1), 8);
        x.ticks(20);
        due.is("gone, bad speed", x.speed(0, 5), LoopListeners.BAD_VALUE);
        due.is("gone", x.speed(0, 4), LoopListeners.NOT_POSSIBLE);
        due.is("speed as it was last", x.ofCar(0, 3), 4);
    }

    private static void ticks() {
        LoopListeners x = new LoopListeners();
        due.is("0", x.ticks(0), LoopListeners.BAD_VALUE);
        due.is("101", x.ticks(101), LoopListeners.BAD_VALUE);
        due.is("-1", x.ticks(-1), LoopListeners.BAD_VALUE);
        due.is("greatest int", x.ticks(Integer.MAX_VALUE), LoopListeners.BAD_VALUE);
        due.is("nothing passed", x.count(0), 0);
        due.is("nothing recorded", x.count(9), 0);
        due.is("1", x.ticks(1), 1);
        due.is("100", x.ticks(100), 101);
        due.is("tick", x.count(0), 101);
        due.is("recorded", x.count(9), 2);
    }

    private static void movingUp() {
        LoopListeners x = new LoopListeners();
        x.come(0, 2, 2, 1);
        x.ticks(3);
        x.speed(0, 1);
        x.come(0, 3, 4, 1);
        x.ticks(1);
        due.is("ahead", x.ofCar(0, 1), 7);
        due.is("behind, by its whole speed", x.ofCar(1, 1), 4);
        due.is("no waiting", x.ofCar(1, 8), 0);
        x.ticks(1);
        due.is("ahead then", x.ofCar(0, 1), 8);
        due.is("behind, as far as the cell is free", x.ofCar(1, 1), 6);
        due.is("this is a waiting", x.ofCar(1, 8), 1);
        x.ticks(4);
        due.is("both by one", x.ofCar(1, 1), 10);
        due.is("waited in each", x.ofCar(1, 8), 5);
        due.is("the one ahead never waited", x.ofCar(0, 8), 0);
        x.speed(1, 1);
        x.ticks(2);
        due.is("its whole speed is 1 now", x.ofCar(1, 8), 5);
        x.speed(0, 0);
        x.ticks(1);
        due.is("not at all", x.ofCar(1, 1), 12);
        due.is("waited", x.ofCar(1, 8), 6);
        x.speed(1, 0);
        x.ticks(5);
        due.is("speed 0 is no waiting", x.ofCar(1, 8), 6);
    }

    private static void foremostFirst() {
        LoopListeners x = new LoopListeners();
        x.come(0, 1, 1, 1);
        x.speed(0, 0);
        x.come(1, 1, 4, 1);
        x.ticks(1);
        x.want(1);
        x.ticks(1);
        x.speed(1, 1);
        due.is("1 is ahead of 0 in its lane", x.ofCar(1, 0) * 100 + x.ofCar(1, 1), 4);
        x.speed(0, 3);
        x.ticks(1);
        due.is("up to it", x.ofCar(0, 1), 3);
        x.speed(1, 2);
        x.ticks(1);
        due.is("the higher number ahead moves first", x.ofCar(1, 1), 7);
        due.is("so that the other one has room", x.ofCar(0, 1), 6);
    }

    private static void lowerNumberFirst() {
        LoopListeners x = new LoopListeners();
        x.come(0, 1, 2, 1);
        x.come(1, 1, 2, 1);
        x.ticks(2);
        x.want(0);
        x.want(1);
        x.ticks(1);
        due.is("0 is first, and finds no room", x.ofCar(0, 1), 6);
        due.is("0 stays in its lane", x.ofCar(0, 0), 0);
        due.is("1 finds room then", x.ofCar(1, 0), 0);
        due.is("1 behind 0", x.ofCar(1, 1), 4);
        x.ticks(1);
        due.is("now 0 has room beside", x.ofCar(0, 0), 1);
    }

    private static void orderAsAheadOfTheTick() {
        LoopListeners x = new LoopListeners();
        x.come(0, 1, 4, 1);
        x.come(1, 1, 3, 1);
        x.ticks(1);
        x.speed(0, 0);
        x.speed(1, 4);
        x.want(0);
        due.is("0 at 4, 1 at 3", x.ofCar(0, 1) * 10 + x.ofCar(1, 1), 43);
        x.ticks(1);
        due.is("0 was first", x.ofCar(0, 0), 1);
        due.is("1 is shut off by it", x.ofCar(1, 1), 3);
        x.speed(0, 1);
        x.speed(1, 2);
        x.ticks(1);
        due.is("0 moves ahead of 1", x.ofCar(0, 1), 5);
        due.is("1 behind it", x.ofCar(1, 1), 4);
    }

    private static void fortyOnTheRoad() {
        LoopListeners x = new LoopListeners();
        for (int car = 0; car < 38; car++) {
            boolean first = car < 2;
            due.is("car", x.come(car % 2, 1, first ? 3 : 4, 1), car);
            x.ticks(first ? 13 : 10);
            if (first) {
                due.is("at the end of its lane", x.ofCar(car, 1), 39);
                x.speed(car, 0);
            }
        }
        due.is("the last one of a row", x.carAt(0, 21), 36);
        x.come(0, 1, 1, 1);
        x.speed(38, 0);
        x.come(1, 1, 1, 1);
        x.ticks(1);
        x.want(39);
        x.ticks(1);
        due.is("on the road", x.count(3), 40);
        due.is("39 is ahead of 38", x.carAt(0, 1), 39);
        x.speed(38, 1);
        x.ticks(1);
        due.is("39 moves first", x.ofCar(39, 1), 2);
        due.is("so that 38 comes on", x.ofCar(38, 1), 1);
        due.is("and never waited", x.ofCar(38, 8), 0);
    }

    private static void leaving() {
        LoopListeners x = new LoopListeners();
        x.come(0, 3, 4, 1);
        x.ticks(10);
        due.is("front beyond the road", x.ofCar(0, 1), 40);
        due.is("on the road by its last cells", x.ofCar(0, 5), 0);
        due.is("takes 38", x.carAt(0, 38), 0);
        due.is("on the road", x.count(3), 1);
        x.ticks(1);
        due.is("gone as soon as its last cell is beyond 39", x.ofCar(0, 1), 42);
        due.is("gone", x.ofCar(0, 5), 1);
        due.is("no waiting by that", x.ofCar(0, 8), 0);
        due.is("takes nothing", x.carAt(0, 39), LoopListeners.NONE);
        due.is("none on the road", x.count(3), 0);
        x.ticks(1);
        due.is("it moves no more", x.ofCar(0, 1), 42);
        LoopListeners y = new LoopListeners();
        y.come(1, 1, 3, 1);
        y.ticks(13);
        due.is("the cell 39", y.ofCar(0, 1), 39);
        due.is("is a cell of the road", y.ofCar(0, 5), 0);
        y.ticks(1);
        due.is("the cell 40 is not", y.ofCar(0, 5), 1);
        due.is("one cell on", y.ofCar(0, 1), 40);
    }

    private static void passings() {
        LoopListeners x = new LoopListeners();
        x.loop(0, 0, 1, 200, 200);
        x.loop(0, 5, 3, 200, 200);
        x.loop(1, 5, 3, 200, 200);
        x.loop(0, 10, 1, 200, 200);
        x.come(0, 1, 4, 1);
        due.is("no passing by coming", x.ofLoop(0, 7), 0);
        x.speed(0, 0);
        x.ticks(1);
        due.is("over it after a tick: a passing", x.ofLoop(0, 7), 1);
        x.ticks(3);
        due.is("once only", x.ofLoop(0, 7), 1);
        x.speed(0, 4);
        x.ticks(2);
        due.is("over no loop at 8", x.ofCar(0, 9), 0);
        due.is("at 8: 5 to 7 were crossed within a tick", x.ofLoop(1, 7), 0);
        x.ticks(1);
        due.is("at 12: 10 was crossed within a tick", x.ofLoop(3, 7), 0);
        x.come(0, 1, 3, 1);
        x.ticks(1);
        due.is("left within its first tick", x.ofLoop(0, 7), 1);
        x.ticks(1);
        due.is("at 6", x.ofLoop(1, 7), 1);
        x.want(1);
        x.ticks(1);
        due.is("beside", x.ofLoop(2, 7), 1);
        x.want(1);
        x.ticks(1);
        due.is("back: a second passing of the same loop", x.ofLoop(1, 7), 2);
        due.is("all", x.count(7), 4);
    }

    private static void switching() {
        LoopListeners x = new LoopListeners();
        x.loop(0, 4, 2, 20, 12);
        x.set(LoopListeners.ACROSS, 2);
        x.come(0, 2, 4, 2);
        x.come(1, 2, 4, 3);
        x.ticks(1);
        due.is("4 * 2 in one cell, 2 * 3 beside", x.ofLoop(0, 8), 14);
        due.is("below the upper bound", x.ofLoop(0, 5), 0);
        x.speed(0, 1);
        x.speed(1, 0);
        x.ticks(1);
        due.is("4 * 2 in two cells, 2 * 3 beside one", x.ofLoop(0, 8), 22);
        due.is("on", x.ofLoop(0, 5), 1);
        due.is("counted", x.ofLoop(0, 6), 1);
        x.ticks(1);
        due.is("one cell again", x.ofLoop(0, 8), 14);
        due.is("on, as it is not less than the lower bound", x.ofLoop(0, 5), 1);
        x.ticks(1);
        due.is("only beside", x.ofLoop(0, 8), 6);
        due.is("off", x.ofLoop(0, 5), 0);
        due.is("counted once", x.ofLoop(0, 6), 1);
        due.is("listened each tick", x.ofLoop(0, 9), 4);
    }
}
