/**
 * What would be after the greatest number of ticks: roads on which the last thing happens late, by cars that wait for
 * one another.
 */
public final class LongRoadTest {
    private static final Due due = new Due();

    /** The one that waits at the cell 39 of lane 0 to change its lane, the one at the cell 1 of lane 1, and the last one. */
    private static final int FIRST = 0, SECOND = 21, LAST = 22;

    public static void main(String[] args) {
        lastOfTwoRows();
        theRoadIsAsTold();
        countsInAHundred();
        countsAloneLate();
        bestUpperInAHundred();
        bestTurnInAHundred();
        goneInLate();
        neverGone();
        due.end();
    }

    /**
     * A car at the end of lane 0 waits until the row beside it has passed, then it changes its lane, and the row behind
     * it moves: the last one of it is gone after 79 ticks. Then nothing moves any more.
     */
    private static void lastOfTwoRows() {
        LoopListeners x = new LoopListeners();
        for (int lane = 0; lane < 2; lane++) {
            for (int car = 0; car < 10; car++) {
                x.come(lane, 4, 3, 1);
                x.ticks(13);
                if (car == 0) {
                    x.speed(10 * lane, 0);
                }
            }
        }
        for (int car = 1; car < 20; car++) {
            x.speed(car, 1);
        }
        x.speed(10, 1);
        due.is("the last one of lane 0", x.ofCar(9, 1), 3);
        due.is("the last one of lane 1", x.ofCar(19, 1), 3);
        due.is("the first one of lane 0 does not go", x.goneIn(0), LoopListeners.NONE);
        due.is("so that the last one can't", x.goneIn(9), LoopListeners.NONE);
        x.want(0);
        due.is("the first one of lane 1", x.goneIn(10), 4);
        due.is("the last one of lane 1", x.goneIn(19), 40);
        due.is("the second one of lane 0", x.goneIn(1), 47);
        due.is("the last one of lane 0", x.goneIn(9), 79);
        due.is("the one that waited stays", x.goneIn(0), LoopListeners.NONE);
        x.ticks(78);
        due.is("not gone", x.ofCar(9, 5), 0);
        due.is("gone in one", x.goneIn(9), 1);
        x.ticks(1);
        due.is("gone", x.ofCar(9, 5), 1);
        x.ticks(100);
        due.is("one is on the road", x.count(3), 1);
        due.is("in the other lane", x.ofCar(0, 0), 1);
    }

    /**
     * Full lanes: in lane 0 the first one waits at the cells 38 and 39, with a row behind it; in lane 1 a row is beside it,
     * behind that the second one waits, with the last one behind it. The row of lane 1 passes, the first one changes its
     * lane, the row of lane 0 moves, the second one changes its lane, and the last one comes on to the cell 37 of lane 1
     * after 77 ticks, and stays there. Loop 0 is there: with TURN 5 it listens last in the tick 75 from now, which is too
     * early, and then in the tick 101.
     */
    private static LoopListeners fullRoad(int falselyCounted) {
        LoopListeners x = new LoopListeners();
        x.set(LoopListeners.ACROSS, 0);
        x.come(0, 2, 3, 1);
        x.ticks(13);
        x.speed(FIRST, 0);
        row(x, 0, 1, 10);
        x.come(1, 4, 3, 1);
        x.ticks(13);
        x.speed(11, 0);
        row(x, 1, 12, 19);
        x.come(1, 2, 4, 1);
        x.ticks(10);
        x.come(1, 1, 1, 1);
        x.ticks(1);
        x.speed(SECOND, 0);
        x.come(1, 1, 1, 9);
        x.loop(1, 37, 1, 200, 1);
        for (int times = 0; times < falselyCounted; times++) {
            x.bounds(0, 4, 1);
            x.ticks(1);
            x.bounds(0, 200, 200);
            x.ticks(1);
        }
        x.bounds(0, 36, 1);
        for (int loop = 1; loop < 6; loop++) {
            x.loop(0, 0, 1, 200, 200);
        }
        for (int car = 1; car <= 20; car++) {
            x.speed(car, car == 11 ? 0 : 1);
        }
        while (x.count(0) % 30 != 20) {
            x.ticks(1);
        }
        x.speed(11, 1);
        x.want(FIRST);
        x.want(SECOND);
        x.set(LoopListeners.TURN, 5);
        return x;
    }

    private static void row(LoopListeners x, int lane, int from, int to) {
        for (int car = from; car <= to; car++) {
            x.come(lane, 4, 3, 1);
            x.ticks(10);
        }
    }

    /** The full road a tick later, in which nothing moved: just loop 0 listens a tick sooner, from the tick 100 from now. */
    private static LoopListeners fullRoadForAHundred(int falselyCounted) {
        LoopListeners x = fullRoad(falselyCounted);
        x.speed(11, 0);
        x.ticks(1);
        x.speed(11, 1);
        return x;
    }

    private static void theRoadIsAsTold() {
        LoopListeners x = fullRoadForAHundred(0);
        due.is("first", x.ofCar(FIRST, 1), 39);
        for (int cell = 0; cell < 40; cell++) {
            due.is("no cell is free", x.carAt(0, cell) == LoopListeners.NONE || x.carAt(1, cell) == LoopListeners.NONE ? 1 : 0, 0);
        }
        due.is("second", x.ofCar(SECOND, 1), 1);
        due.is("last", x.ofCar(LAST, 1), 0);
        x.ticks(37);
        due.is("the first one waits", x.ofCar(FIRST, 0), 0);
        x.ticks(1);
        due.is("the row has passed", x.ofCar(FIRST, 0), 1);
        x.ticks(2);
        due.is("the second one waits", x.ofCar(SECOND, 0), 1);
        x.ticks(1);
        due.is("the other row has passed it", x.ofCar(SECOND, 0), 0);
        x.ticks(35);
        due.is("the last one comes on", x.ofCar(LAST, 1), 36);
        x.ticks(1);
        due.is("to its place", x.ofCar(LAST, 1), 37);
        x.ticks(22);
        due.is("99 ticks: loop 0 has not heard it", x.ofLoop(0, 6), 0);
        x.ticks(1);
        due.is("100 ticks: it has", x.ofLoop(0, 6), 1);
        due.is("its place is the same", x.ofCar(LAST, 1), 37);
        due.is("nine of its row, and itself, passed", x.ofLoop(0, 7), 10);
    }

    private static void countsInAHundred() {
        LoopListeners x = fullRoadForAHundred(0);
        due.is("in 99", x.countsIn(0, 99), 0);
        due.is("in 100", x.countsIn(0, 100), 1);
        LoopListeners y = fullRoad(0);
        due.is("when it would be 101, in 100", y.countsIn(0, 100), 0);
    }

    private static void countsAloneLate() {
        LoopListeners x = fullRoadForAHundred(0);
        due.is("alone, in 76", x.countsAlone(0, 76), 0);
        due.is("alone, in 77", x.countsAlone(0, 77), 1);
        due.is("alone, in 100", x.countsAlone(0, 100), 1);
    }

    private static void bestUpperInAHundred() {
        LoopListeners x = fullRoadForAHundred(9);
        due.is("counted", x.error(0), 1009);
        // ten pass: with 1 to 4 the loop counts the row, with 5 to 36 the last car alone, which it hears in the 100th tick
        due.is("in 99: the row makes it right", x.bestUpper(0, 99), 1);
        due.is("in 100: the last one makes it right", x.bestUpper(0, 100), 5);
    }

    private static void bestTurnInAHundred() {
        LoopListeners x = fullRoadForAHundred(10);
        due.is("counted", x.error(0), 1010);
        // ten pass, so that the error is 0 if the last one is not heard: with 1 to 4 it is heard sooner
        due.is("in 76: none hears it", x.bestTurn(76), 1);
        due.is("in 99: just 5 does not hear it", x.bestTurn(99), 5);
        due.is("in 100: all hear it", x.bestTurn(100), 1);
    }

    /**
     * The longest time that a search over many roads found: a car that is gone after 93 ticks. No road was found on which
     * it would be about 200.
     */
    private static void goneInLate() {
        // lane, front, length, speed, whether it wants
        int[][] cars = {
            {0, 39, 4, 0, 1}, {1, 37, 1, 3, 1}, {1, 36, 4, 1, 1}, {0, 35, 4, 1, 1}, {1, 30, 3, 1, 0},
            {0, 30, 1, 4, 0}, {0, 29, 3, 1, 0}, {1, 27, 1, 1, 1}, {0, 26, 2, 1, 1}, {1, 25, 4, 2, 0},
            {0, 24, 3, 4, 0}, {0, 21, 2, 1, 0}, {1, 21, 2, 1, 1}, {0, 19, 4, 2, 0}, {1, 19, 2, 1, 1},
            {1, 17, 1, 4, 1}, {0, 15, 4, 1, 1}, {1, 14, 2, 1, 1}, {0, 11, 4, 1, 1}, {1, 10, 2, 1, 0},
            {1, 7, 1, 1, 1}, {0, 7, 2, 1, 0}, {1, 6, 2, 0, 1}, {0, 5, 1, 1, 1}, {0, 4, 4, 1, 1}, {1, 4, 1, 1, 1},
            {1, 3, 1, 1, 1}, {1, 2, 2, 1, 1}, {0, 0, 4, 1, 1}, {1, 0, 4, 1, 0},
        };
        LoopListeners x = new LoopListeners();
        for (int car = 0; car < cars.length; car++) {
            x.come(cars[car][0], cars[car][2], 1, 1);
            if (cars[car][1] > 0) {
                x.ticks(cars[car][1]);
            }
            x.speed(car, 0);
            due.is("front of " + car, x.ofCar(car, 1), cars[car][1]);
        }
        for (int car = 0; car < cars.length; car++) {
            x.speed(car, cars[car][3]);
            if (cars[car][4] == 1) {
                x.want(car);
            }
        }
        due.is("gone in", x.goneIn(27), 93);
        x.ticks(92);
        due.is("not gone", x.ofCar(27, 5), 0);
        due.is("in the next tick", x.goneIn(27), 1);
        x.ticks(1);
        due.is("gone", x.ofCar(27, 5), 1);
    }

    private static void neverGone() {
        LoopListeners x = new LoopListeners();
        x.come(0, 1, 1, 1);
        x.speed(0, 0);
        due.is("it stands", x.goneIn(0), LoopListeners.NONE);
        x.ticks(100);
        x.ticks(100);
        due.is("it stands still", x.goneIn(0), LoopListeners.NONE);
        x.speed(0, 1);
        due.is("how long it stood does not matter", x.goneIn(0), 40);
        x.want(0);
        due.is("with a tick more to change its lane", x.goneIn(0), 41);
    }
}
