/** The terms "Road, cars" and "A tick", 1: each sentence at its edges, over all lengths, speeds and places. */
public final class RoadTest {
    private static final int NONE = LoopListeners.NONE;
    private static final Due due = new Due();

    public static void main(String[] args) {
        cellsOfACar();
        goneMovesNoFurther();
        fortyThatEverCame();
        numberedAsTheyCame();
        freeAgain();
        cellByCell();
        freeBeyondTheRoad();
        whatIsWaiting();
        greaterFrontFirst();
        lowerNumberFirst();
        frontAheadOfTheTick();
        allCellsBesideFree();
        besideAtTheFirstCell();
        besideAtTheLastCells();
        lanesDoNotMeet();
        changesWithoutSpeed();
        wantsNothingMore();
        goneWithAWish();
        due.end();
    }

    /** A car that stands with its front at a cell, on a road on which nothing is in its way; returns its number. */
    private static int standing(LoopListeners x, int lane, int length, int front) {
        int car = x.come(lane, length, 1, 1);
        if (front > 0) {
            x.ticks(front);
        }
        x.speed(car, 0);
        due.is("a car of " + length + " stands", x.ofCar(car, 1), front);
        return car;
    }

    /** "it takes the cells of its lane from front - length + 1 to front, as far as there are such cells" */
    private static void cellsOfACar() {
        for (int lane = 0; lane < 2; lane++) {
            for (int length = 1; length <= 4; length++) {
                for (int front = 0; front <= 39 + length; front++) {
                    cellsOfACar(lane, length, front);
                }
            }
        }
    }

    private static void cellsOfACar(int lane, int length, int front) {
        LoopListeners x = new LoopListeners();
        x.come(lane, length, 1, 1);
        if (front > 0) {
            x.ticks(front);
        }
        String name = "a car of " + length + " at " + front;
        for (int cell = 0; cell < 40; cell++) {
            boolean takes = cell >= front - length + 1 && cell <= front;
            due.is(name + " takes " + cell, x.carAt(lane, cell), takes ? 0 : NONE);
            due.is(name + " takes " + cell + " beside", x.carAt(1 - lane, cell), NONE);
        }
        // "It is on the road until its last cell is beyond 39; then it is gone"
        boolean gone = front - length + 1 > 39;
        due.is(name + " is gone", x.ofCar(0, 5), gone ? 1 : 0);
        due.is(name + " is on the road", x.count(3), gone ? 0 : 1);
        due.is(name + " is counted as gone", x.count(4), gone ? 1 : 0);
        due.is(name + " wants", x.want(0), gone ? LoopListeners.NOT_POSSIBLE : 1);
        due.is(name + " speeds", x.speed(0, 4), gone ? LoopListeners.NOT_POSSIBLE : 1);
        due.is(name + " will be gone", x.goneIn(0) == 0 ? 1 : 0, gone ? 1 : 0);
        boolean free = front >= length;
        due.is(name + " leaves the cell 0 free", x.come(lane, 1, 1, 1), free ? 1 : LoopListeners.NOT_POSSIBLE);
    }

    /** "It is gone as soon as its last cell is beyond 39, and moves no further then." */
    private static void goneMovesNoFurther() {
        for (int length = 1; length <= 4; length++) {
            for (int speed = 1; speed <= 4; speed++) {
                LoopListeners x = new LoopListeners();
                x.come(0, length, speed, 1);
                String name = "length " + length + ", speed " + speed;
                int ticks = (39 + length + speed - 1) / speed;
                due.is(name + " is gone in", x.goneIn(0), ticks);
                x.ticks(ticks - 1);
                due.is(name + " is there a tick before", x.ofCar(0, 5), 0);
                due.is(name + " is at", x.ofCar(0, 1), speed * (ticks - 1));
                due.is(name + " is gone in the next tick", x.goneIn(0), 1);
                x.ticks(1);
                due.is(name + " is gone", x.ofCar(0, 5), 1);
                due.is(name + " has moved to", x.ofCar(0, 1), 39 + length);
                x.ticks(100);
                due.is(name + " is there still", x.ofCar(0, 1), 39 + length);
                due.is(name + " never waited", x.ofCar(0, 8), 0);
                due.is(name + " is gone now", x.goneIn(0), 0);
            }
        }
    }

    /** "There are up to 40 cars (all that ever came)" */
    private static void fortyThatEverCame() {
        LoopListeners x = new LoopListeners();
        for (int car = 0; car < 39; car++) {
            x.come(0, 1, 4, 1);
            x.ticks(1);
        }
        x.ticks(100);
        due.is("39 came", x.count(2), 39);
        due.is("none is on the road", x.count(3), 0);
        due.is("39 are gone", x.count(4), 39);
        due.is("one more", x.come(1, 4, 4, 9), 39);
        due.is("no other one, though the road is as good as empty", x.come(0, 1, 1, 1), LoopListeners.TOO_MANY);
        x.ticks(100);
        due.is("nor when all are gone", x.come(0, 1, 1, 1), LoopListeners.TOO_MANY);
        due.is("40 are gone", x.count(4), 40);
        due.is("the first one", x.ofCar(0, 5), 1);
        due.is("the last one", x.ofCar(39, 4), 9);
    }

    /** "numbered in the order in which they came", both lanes together, from 0 */
    private static void numberedAsTheyCame() {
        LoopListeners x = new LoopListeners();
        int[] lanes = {1, 0, 0, 1, 1, 0};
        for (int car = 0; car < lanes.length; car++) {
            due.is("car", x.come(lanes[car], 1, 1, 1 + car), car);
            x.ticks(1);
        }
        for (int car = 0; car < lanes.length; car++) {
            due.is("its lane", x.ofCar(car, 0), lanes[car]);
            due.is("its metal", x.ofCar(car, 4), 1 + car);
            due.is("its cell", x.carAt(lanes[car], 6 - car), car);
        }
    }

    /** "A cell is free if no car takes it." */
    private static void freeAgain() {
        LoopListeners x = new LoopListeners();
        x.come(0, 1, 4, 1);
        x.ticks(9);
        x.come(0, 4, 1, 1);
        x.ticks(1);
        due.is("gone", x.ofCar(0, 5), 1);
        for (int cell = 36; cell < 40; cell++) {
            due.is("a car that is gone takes no cell", x.carAt(0, cell), NONE);
        }
        x.ticks(42);
        due.is("the other one is gone too", x.ofCar(1, 5), 1);
        due.is("the last cell is free", x.carAt(0, 39), NONE);
    }

    /** "Otherwise it moves on by its speed, cell by cell, as long as the next cell is free", and what is waiting */
    private static void cellByCell() {
        for (int free = 0; free <= 5; free++) {
            for (int speed = 0; speed <= 4; speed++) {
                LoopListeners x = new LoopListeners();
                standing(x, 0, 2, 20);
                int car = standing(x, 0, 3, 18 - free);
                x.speed(car, speed);
                x.ticks(1);
                int moved = Math.min(free, speed);
                String name = free + " cells free, speed " + speed;
                due.is(name + ": front", x.ofCar(car, 1), 18 - free + moved);
                due.is(name + ": waited", x.ofCar(car, 8), moved < speed ? 1 : 0);
                due.is(name + ": the one ahead did not wait", x.ofCar(0, 8), 0);
                due.is(name + ": foremost cell", x.carAt(0, 18 - free + moved), car);
                due.is(name + ": last cell", x.carAt(0, 16 - free + moved), car);
                due.is(name + ": behind it", x.carAt(0, 15 - free + moved), NONE);
                x.ticks(7);
                due.is(name + ": seven ticks on", x.ofCar(car, 1), Math.min(18, 18 - free + 8 * speed));
            }
        }
    }

    /** "cells beyond 39 are free", also if a car is there already */
    private static void freeBeyondTheRoad() {
        LoopListeners x = new LoopListeners();
        standing(x, 1, 4, 42);
        due.is("takes the cell 39 alone", x.carAt(1, 39) * 10 + (x.carAt(1, 38) == NONE ? 1 : 0), 1);
        x.come(1, 4, 4, 1);
        x.ticks(20);
        due.is("the cell 39 is not free", x.ofCar(1, 1), 38);
        x.speed(0, 1);
        x.ticks(1);
        due.is("the first one is gone", x.ofCar(0, 5), 1);
        due.is("the next one moves by its whole speed", x.ofCar(1, 1), 42);
        due.is("and is on the road", x.ofCar(1, 5), 0);
        x.come(1, 1, 1, 1);
        x.ticks(1);
        due.is("until its last cell is beyond 39", x.ofCar(1, 1) * 10 + x.ofCar(1, 5), 431);
    }

    /** "the ticks in which it did not come on by its whole speed, did not change its lane, and was not gone behind it" */
    private static void whatIsWaiting() {
        LoopListeners x = new LoopListeners();
        standing(x, 0, 1, 10);
        int car = x.come(0, 1, 4, 1);
        x.ticks(2);
        due.is("by its whole speed", x.ofCar(car, 8), 0);
        x.ticks(1);
        due.is("by a part of it", x.ofCar(car, 1) * 10 + x.ofCar(car, 8), 91);
        x.ticks(1);
        due.is("not at all", x.ofCar(car, 8), 2);
        int beside = standing(x, 1, 1, 9);
        x.want(car);
        due.is("waited until the other one was beside", x.ofCar(car, 8), 11);
        x.ticks(1);
        due.is("wants, but the cell beside is taken", x.ofCar(car, 8), 12);
        x.speed(beside, 4);
        x.ticks(1);
        due.is("the one beside moves later, as its number is higher", x.ofCar(car, 8), 13);
        x.ticks(1);
        due.is("it changes its lane: no waiting", x.ofCar(car, 0) * 100 + x.ofCar(car, 8), 113);
        x.ticks(7);
        due.is("at 37", x.ofCar(car, 1), 37);
        x.ticks(1);
        due.is("gone behind it, by three of four cells: no waiting", x.ofCar(car, 5) * 100 + x.ofCar(car, 8), 113);
        x.ticks(50);
        due.is("a car that is gone waits no more", x.ofCar(car, 8), 13);
        due.is("a car of speed 0 never does", x.ofCar(0, 8), 0);
    }

    /** "those with the greater front first": in both lanes together, so that the one ahead takes the free cells */
    private static void greaterFrontFirst() {
        for (int lane = 0; lane < 2; lane++) {
            LoopListeners x = new LoopListeners();
            standing(x, lane, 1, 5);
            standing(x, 1 - lane, 1, 6);
            x.speed(0, 4);
            x.want(1);
            x.ticks(1);
            due.is("6 is ahead of 5, though its number is higher", x.ofCar(1, 0), lane);
            due.is("so that 5 can't move on", x.ofCar(0, 1), 5);
            LoopListeners y = new LoopListeners();
            standing(y, lane, 1, 6);
            standing(y, 1 - lane, 1, 5);
            y.want(0);
            y.speed(1, 4);
            y.ticks(1);
            due.is("the one ahead changes its lane", y.ofCar(0, 0), 1 - lane);
            due.is("the one behind it can't move on", y.ofCar(1, 1), 5);
        }
    }

    /** "of several the lower number first" */
    private static void lowerNumberFirst() {
        for (int lane = 0; lane < 2; lane++) {
            LoopListeners x = new LoopListeners();
            x.come(lane, 1, 3, 1);
            x.come(1 - lane, 1, 3, 1);
            x.ticks(3);
            x.want(0);
            x.want(1);
            x.ticks(1);
            due.is("0 finds no room, and moves on", x.ofCar(0, 0) * 100 + x.ofCar(0, 1), 100 * lane + 12);
            due.is("1 finds the cell free then", x.ofCar(1, 0) * 100 + x.ofCar(1, 1), 100 * lane + 9);
        }
    }

    /** "(as it is ahead of this tick)": who passes another one within a tick is put ahead by it in the next tick only */
    private static void frontAheadOfTheTick() {
        LoopListeners x = new LoopListeners();
        standing(x, 0, 1, 6);
        standing(x, 1, 1, 5);
        standing(x, 0, 1, 3);
        x.speed(1, 4);
        x.want(0);
        x.speed(2, 4);
        // in order 6, 5, 3: 0 changes to the lane 1 ahead of 1, so that 2 has its way free, and 1 has not
        x.ticks(1);
        due.is("0", x.ofCar(0, 0) * 100 + x.ofCar(0, 1), 106);
        due.is("1", x.ofCar(1, 0) * 100 + x.ofCar(1, 1), 105);
        due.is("2", x.ofCar(2, 0) * 100 + x.ofCar(2, 1), 7);
        x.want(1);
        x.speed(0, 1);
        // in order 7, 6, 5: 2 leaves, 0 moves on, 1 finds 5 beside free
        x.ticks(1);
        due.is("2 then", x.ofCar(2, 1), 11);
        due.is("0 then", x.ofCar(0, 1), 7);
        due.is("1 then", x.ofCar(1, 0) * 100 + x.ofCar(1, 1), 5);
    }

    /** "if the cells of the other lane that it would take there, with the same front, are all free" */
    private static void allCellsBesideFree() {
        for (int lane = 0; lane < 2; lane++) {
            for (int length = 1; length <= 4; length++) {
                for (int other = 14; other <= 22; other++) {
                    LoopListeners x = new LoopListeners();
                    standing(x, 1 - lane, 1, other);
                    int car = standing(x, lane, length, 20);
                    x.speed(car, 2);
                    x.want(car);
                    x.ticks(1);
                    boolean free = other > 20 || other < 21 - length;
                    String name = "length " + length + " beside " + other;
                    due.is(name + ": lane", x.ofCar(car, 0), free ? 1 - lane : lane);
                    due.is(name + ": does not move on by changing", x.ofCar(car, 1), free ? 20 : 22);
                    due.is(name + ": wants", x.ofCar(car, 6), free ? 0 : 1);
                    due.is(name + ": changes", x.ofCar(car, 7), free ? 1 : 0);
                    due.is(name + ": waits", x.ofCar(car, 8), 0);
                }
            }
        }
    }

    /** The cells below 0 do not exist, so that a long car at the cell 0 needs this cell alone. */
    private static void besideAtTheFirstCell() {
        for (int length = 1; length <= 4; length++) {
            for (int other = 0; other <= 1; other++) {
                LoopListeners x = new LoopListeners();
                standing(x, 1, 1, other);
                x.come(0, length, 2, 1);
                x.want(1);
                x.ticks(1);
                due.is("length " + length + " at 0 beside " + other + ": lane", x.ofCar(1, 0), other);
                due.is("length " + length + " at 0 beside " + other + ": front", x.ofCar(1, 1), other == 0 ? 2 : 0);
                due.is("its cell 0 beside", x.carAt(1, 0), other == 0 ? 0 : 1);
                due.is("the cell 0", x.carAt(0, 0), other == 0 && length > 2 ? 1 : NONE);
            }
        }
    }

    /** The cells beyond 39 do not exist, so that a long car there needs those up to 39 alone. */
    private static void besideAtTheLastCells() {
        for (int length = 2; length <= 4; length++) {
            for (int front = 39; front <= 38 + length; front++) {
                for (int other = 34; other <= 39; other++) {
                    LoopListeners x = new LoopListeners();
                    standing(x, 0, 1, other);
                    int car = standing(x, 1, length, front);
                    x.want(car);
                    x.ticks(1);
                    boolean free = other < front - length + 1;
                    due.is("length " + length + " at " + front + " beside " + other + ": lane", x.ofCar(car, 0), free ? 0 : 1);
                    due.is("it takes the cell 39", x.carAt(free ? 0 : 1, 39), car);
                }
            }
        }
        LoopListeners y = new LoopListeners();
        standing(y, 0, 4, 42);
        standing(y, 1, 3, 41);
        y.want(0);
        y.ticks(1);
        due.is("39 beside is taken by one that is beyond the road mostly", y.ofCar(0, 0), 0);
        y.speed(1, 1);
        y.ticks(1);
        due.is("the one beside moves later, as its front is less", y.ofCar(0, 0) * 10 + y.ofCar(1, 5), 1);
        y.ticks(1);
        due.is("when it is gone, its cell is free", y.ofCar(0, 0), 1);
    }

    /** The cell behind the cell 0 of a lane, and the one ahead of the cell 39, are none of the other lane. */
    private static void lanesDoNotMeet() {
        for (int lane = 0; lane < 2; lane++) {
            LoopListeners x = new LoopListeners();
            standing(x, lane, 1, 39);
            x.come(lane, 4, 1, 1);
            x.want(1);
            x.ticks(1);
            due.is("changes at the cell 0", x.ofCar(1, 0), 1 - lane);
            due.is("the car at the cell 39 is there still", x.carAt(lane, 39), 0);
            x.speed(1, 0);
            x.want(1);
            x.want(0);
            x.ticks(1);
            due.is("back again", x.ofCar(1, 0), lane);
            due.is("the one at the cell 39 changes, too", x.ofCar(0, 0), 1 - lane);
            x.speed(0, 4);
            x.ticks(1);
            due.is("it moves on, though there are cars at the cells 0", x.ofCar(0, 5), 1);
            due.is("the car at the cell 0 is there still", x.carAt(lane, 0), 1);
            LoopListeners y = new LoopListeners();
            standing(y, lane, 4, 41);
            y.come(lane, 1, 1, 1);
            y.come(1 - lane, 1, 1, 1);
            y.speed(1, 0);
            y.speed(2, 0);
            y.want(0);
            y.ticks(1);
            due.is("changes beyond 39, though there are cars at the cells 0", y.ofCar(0, 0), 1 - lane);
            due.is("who are there still", y.carAt(lane, 0) * 10 + y.carAt(1 - lane, 0), 12);
        }
    }

    /** A car of speed 0 changes its lane, too. */
    private static void changesWithoutSpeed() {
        LoopListeners x = new LoopListeners();
        standing(x, 0, 2, 7);
        x.want(0);
        x.ticks(1);
        due.is("in the other lane", x.ofCar(0, 0) * 100 + x.ofCar(0, 1), 107);
        due.is("changed once", x.ofCar(0, 7), 1);
    }

    /** "it changes to it, wants nothing more, and does not move on" */
    private static void wantsNothingMore() {
        LoopListeners x = new LoopListeners();
        x.come(1, 1, 2, 1);
        x.want(0);
        x.ticks(3);
        due.is("it stays in the lane, and moves on from the next tick", x.ofCar(0, 0) * 100 + x.ofCar(0, 1), 4);
        due.is("changed once", x.ofCar(0, 7), 1);
        due.is("wants nothing", x.ofCar(0, 6), 0);
        due.is("wants again", x.want(0), 1);
        due.is("wants no more", x.want(0), 0);
        x.ticks(2);
        due.is("it moves on in its lane", x.ofCar(0, 0) * 100 + x.ofCar(0, 1), 8);
    }

    /**
     * "then it is gone": also if it wants still; it changes nothing any more, whatever is free beside it. Its wish is
     * "as they were last, if it is gone".
     */
    private static void goneWithAWish() {
        LoopListeners x = new LoopListeners();
        x.come(0, 1, 4, 1);
        x.come(1, 1, 4, 1);
        x.want(0);
        for (int tick = 0; tick < 10; tick++) {
            due.is("it wants, but the one beside it has not moved on yet", x.ofCar(0, 0) * 10 + x.ofCar(0, 6), 1);
            x.ticks(1);
        }
        due.is("gone", x.ofCar(0, 5), 1);
        x.ticks(10);
        int[] numbers = {0, 40, 1, 4, 1, 1, 1, 0, 0, 0};
        for (int what = 0; what < 10; what++) {
            due.is("ofCar(0, " + what + ") as it was last", x.ofCar(0, what), numbers[what]);
        }
        due.is("its wish can't be taken back", x.want(0), LoopListeners.NOT_POSSIBLE);
        due.is("it wants still", x.ofCar(0, 6), 1);
    }
}
