/** The terms "A tick", 2 to 4, and "Loops": each sentence at its edges, over all turns, strengths, bounds and places. */
public final class ListeningTest {
    private static final Due due = new Due();

    public static void main(String[] args) {
        overALoop();
        passedOnce();
        onlyCrossed();
        passedByComing();
        laidUnderCars();
        passedByChangingLanes();
        turns();
        noLoops();
        strengthOver();
        strengthBeside();
        greatestStrength();
        atLeastTheUpperBound();
        lessThanTheLowerBound();
        countedWhenSwitchedOn();
        listensInItsTurnAlone();
        offAtFirst();
        overOneAnother();
        errors();
        thousandsOfTicks();
        due.end();
    }

    private static void standing(LoopListeners x, int lane, int length, int metal, int front) {
        int car = x.come(lane, length, 1, metal);
        if (front > 0) {
            x.ticks(front);
        }
        x.speed(car, 0);
    }

    /** "a car is over a loop if it takes a cell of the loop": its foremost or its last one, the first or the last of the loop */
    private static void overALoop() {
        for (int length = 1; length <= 4; length++) {
            for (int cells = 1; cells <= 3; cells++) {
                for (int first : new int[] {0, 1, 20, 40 - cells}) {
                    for (int front = 0; front <= 39 + length; front++) {
                        overALoop(length, cells, first, front);
                    }
                }
            }
        }
    }

    private static void overALoop(int length, int cells, int first, int front) {
        LoopListeners x = new LoopListeners();
        x.loop(1, first, cells, 200, 200);
        x.loop(0, first, cells, 200, 200);
        x.come(1, length, 1, 9);
        if (front > 0) {
            x.ticks(front);
        }
        int shared = 0;
        for (int cell = first; cell < first + cells; cell++) {
            shared += cell <= front && cell > front - length ? 1 : 0;
        }
        String name = "length " + length + " at " + front + ", loop of " + cells + " at " + first;
        due.is(name + ": over", x.ofCar(0, 9), shared > 0 ? 1 : 0);
        due.is(name + ": strength", x.ofLoop(0, 8), 36 * shared);
        due.is(name + ": strength beside", x.ofLoop(1, 8), 9 * shared);
        // over a loop at its first cell it has been before its first tick, and passes it just if it is over it behind that
        boolean passed = front > 0 && front >= first && (first > 0 || cells + length > 2);
        due.is(name + ": passings", x.ofLoop(0, 7), passed ? 1 : 0);
        due.is(name + ": passings beside", x.ofLoop(1, 7), 0);
    }

    /** "If it is over a loop now, and was not behind the last tick": once, however long it stays. */
    private static void passedOnce() {
        LoopListeners x = new LoopListeners();
        x.loop(0, 10, 3, 200, 200);
        x.come(0, 4, 1, 1);
        int[] passings = {0, 1, 1, 1, 1, 1, 1, 1};
        x.ticks(9);
        for (int i = 0; i < passings.length; i++) {
            due.is("at " + x.ofCar(0, 1), x.ofLoop(0, 7), passings[i]);
            x.ticks(1);
        }
        x.come(0, 1, 4, 1);
        x.ticks(3);
        x.speed(1, 0);
        due.is("another car", x.ofLoop(0, 7), 2);
        x.ticks(100);
        due.is("that stands on it", x.ofLoop(0, 7), 2);
        due.is("all passings", x.count(7), 2);
    }

    /** "(Cells that it only crossed within the tick do not count.)" */
    private static void onlyCrossed() {
        for (int cells = 1; cells <= 3; cells++) {
            for (int first = 0; first + cells <= 40; first++) {
                LoopListeners x = new LoopListeners();
                x.loop(0, first, cells, 200, 200);
                x.come(0, 1, 4, 1);
                x.ticks(100);
                // behind its ticks it is at 4, 8, .., 36
                boolean over = false;
                for (int cell = first; cell < first + cells; cell++) {
                    over |= cell > 0 && cell % 4 == 0;
                }
                due.is("loop of " + cells + " at " + first, x.ofLoop(0, 7), over ? 1 : 0);
            }
        }
        LoopListeners y = new LoopListeners();
        y.loop(0, 39, 1, 1, 1);
        y.come(0, 1, 2, 9);
        y.ticks(19);
        due.is("at 38", y.ofCar(0, 1), 38);
        y.ticks(1);
        due.is("a car that leaves the road across the loop is over it no more", y.ofLoop(0, 7) * 10 + y.ofCar(0, 5), 1);
        due.is("and is not heard", y.ofLoop(0, 6), 0);
    }

    /** "(or before it came)": a car that came to a loop, and is over it behind the first tick, passes it then. */
    private static void passedByComing() {
        LoopListeners x = new LoopListeners();
        x.loop(0, 0, 1, 200, 200);
        x.loop(1, 0, 1, 200, 200);
        x.come(0, 2, 1, 1);
        x.come(1, 1, 1, 1);
        due.is("not by coming", x.count(7), 0);
        due.is("though it is over it", x.ofCar(0, 9) * 10 + x.ofCar(1, 9), 12);
        x.ticks(1);
        due.is("still over it behind the tick", x.ofLoop(0, 7), 1);
        due.is("over it no more", x.ofLoop(1, 7), 0);
        x.ticks(5);
        due.is("no more", x.count(7), 1);
    }

    /** "cars that are over it already do not pass it by that", nor later while they are over it */
    private static void laidUnderCars() {
        LoopListeners x = new LoopListeners();
        x.loop(0, 3, 1, 200, 200);
        standing(x, 0, 3, 1, 5);
        due.is("the first one is passed", x.ofLoop(0, 7), 1);
        x.loop(0, 5, 1, 200, 200);
        x.loop(0, 4, 2, 200, 200);
        x.loop(0, 6, 1, 200, 200);
        due.is("over the first three", x.ofCar(0, 9), 7);
        x.ticks(2);
        due.is("no passing", x.count(7), 1);
        due.is("nor of the one that was passed before", x.ofLoop(0, 7), 1);
        x.speed(0, 1);
        x.ticks(1);
        due.is("a passing of the one ahead", x.ofLoop(3, 7), 1);
        x.ticks(10);
        due.is("no other one", x.count(7), 2);
        x.come(0, 3, 1, 1);
        x.ticks(20);
        due.is("the next car passes all four", x.count(7), 6);
        LoopListeners y = new LoopListeners();
        y.come(0, 2, 1, 1);
        y.loop(0, 0, 1, 200, 200);
        y.ticks(1);
        due.is("also of a car that has just come", y.ofLoop(0, 7), 0);
        LoopListeners z = new LoopListeners();
        standing(z, 0, 1, 1, 5);
        z.loop(0, 5, 1, 200, 200);
        z.want(0);
        z.ticks(1);
        z.want(0);
        z.ticks(1);
        due.is("but one that was away comes back over it", z.ofLoop(0, 7), 1);
        LoopListeners sixth = new LoopListeners();
        standing(sixth, 1, 1, 1, 39);
        for (int loop = 0; loop < 6; loop++) {
            sixth.loop(1, 39, 1, 200, 200);
            sixth.ticks(1);
        }
        due.is("over all six", sixth.ofCar(0, 9), 63);
        due.is("and passed none", sixth.count(7), 0);
    }

    private static void passedByChangingLanes() {
        LoopListeners x = new LoopListeners();
        x.loop(0, 5, 1, 200, 200);
        x.loop(1, 5, 1, 200, 200);
        standing(x, 0, 1, 1, 5);
        for (int times = 1; times <= 5; times++) {
            x.want(0);
            x.ticks(1);
            due.is("passings of the loop in the lane 1", x.ofLoop(1, 7), (times + 1) / 2);
            due.is("passings of the loop in the lane 0", x.ofLoop(0, 7), 1 + times / 2);
        }
    }

    /** "the turn of a tick is (tick / TURN) left over by the number of loops" */
    private static void turns() {
        for (int turn = 1; turn <= 5; turn++) {
            for (int loops = 1; loops <= 6; loops++) {
                LoopListeners x = new LoopListeners();
                x.set(LoopListeners.TURN, turn);
                for (int loop = 0; loop < loops; loop++) {
                    x.loop(loop % 2, loop, 1, 200, 200);
                }
                int[] listened = new int[6];
                for (int tick = 0; tick < 61; tick++) {
                    due.is("turn of the tick " + tick + " by " + turn + " of " + loops, x.count(5), tick / turn % loops);
                    listened[tick / turn % loops]++;
                    due.is("tick", x.ticks(1), tick + 1);
                }
                for (int loop = 0; loop < loops; loop++) {
                    due.is("loop " + loop + " of " + loops + " listened by " + turn, x.ofLoop(loop, 9), listened[loop]);
                }
            }
        }
    }

    /** "If there are loops, one of them listens" */
    private static void noLoops() {
        LoopListeners x = new LoopListeners();
        x.come(0, 1, 1, 9);
        due.is("none listens", x.count(5), LoopListeners.NONE);
        due.is("the tick passes all the same", x.ticks(1), 1);
        due.is("and the car moves", x.ofCar(0, 1), 1);
        due.is("none counts", x.count(6), 0);
        due.is("none is passed", x.count(7), 0);
    }

    /** "4 * the sum, over all cars, of metal * (how many cells of the loop the car takes)" */
    private static void strengthOver() {
        for (int metal = 1; metal <= 9; metal++) {
            for (int cells = 1; cells <= 3; cells++) {
                LoopListeners x = new LoopListeners();
                x.loop(0, 20, cells, 200, 200);
                standing(x, 0, 4, metal, 20 + cells - 1);
                due.is("metal " + metal + " over " + cells, x.ofLoop(0, 8), 4 * metal * cells);
            }
        }
        LoopListeners y = new LoopListeners();
        y.loop(0, 20, 3, 200, 200);
        due.is("no car", y.ofLoop(0, 8), 0);
        standing(y, 0, 1, 9, 22);
        standing(y, 0, 1, 5, 21);
        standing(y, 0, 2, 2, 20);
        standing(y, 0, 1, 9, 18);
        due.is("three cars", y.ofLoop(0, 8), 4 * (9 + 5 + 2));
    }

    /** "ACROSS * the same sum over the cars that take the cells beside (of the other lane, with the same numbers)" */
    private static void strengthBeside() {
        for (int across = 0; across <= 8; across++) {
            for (int lane = 0; lane < 2; lane++) {
                LoopListeners x = new LoopListeners();
                x.set(LoopListeners.ACROSS, across);
                x.loop(lane, 20, 2, 200, 200);
                standing(x, 1 - lane, 1, 9, 22);
                due.is("one cell ahead, beside", x.ofLoop(0, 8), 0);
                standing(x, 1 - lane, 1, 7, 21);
                due.is("beside the last cell, by " + across, x.ofLoop(0, 8), 7 * across);
                standing(x, 1 - lane, 1, 5, 20);
                due.is("beside both, by " + across, x.ofLoop(0, 8), 12 * across);
                standing(x, 1 - lane, 4, 3, 19);
                due.is("one cell behind, beside", x.ofLoop(0, 8), 12 * across);
                standing(x, lane, 4, 1, 20);
                due.is("over one cell, too", x.ofLoop(0, 8), 4 + 12 * across);
            }
        }
    }

    private static void greatestStrength() {
        LoopListeners x = new LoopListeners();
        x.set(LoopListeners.ACROSS, 8);
        x.loop(1, 37, 3, 200, 200);
        standing(x, 0, 4, 9, 40);
        standing(x, 1, 3, 9, 39);
        due.is("three cells of 9, three beside", x.ofLoop(0, 8), 4 * 27 + 8 * 27);
        due.is("on by the greatest bound", x.ofLoop(0, 5), 1);
        due.is("counted", x.ofLoop(0, 6), 1);
        x.speed(0, 1);
        x.speed(1, 1);
        x.ticks(1);
        due.is("over and beside two cells", x.ofLoop(0, 8), 4 * 18 + 8 * 18);
        x.ticks(1);
        due.is("over and beside one cell", x.ofLoop(0, 8), 4 * 9 + 8 * 9);
        due.is("less than 200", x.ofLoop(0, 5), 0);
    }

    /** "If the loop is off, and its strength is at least its upper bound, it switches on" */
    private static void atLeastTheUpperBound() {
        for (int metal : new int[] {1, 5, 9}) {
            for (int upper = 1; upper <= 200; upper++) {
                LoopListeners x = new LoopListeners();
                standing(x, 0, 3, metal, 5);
                x.loop(0, 4, 2, upper, 1);
                x.ticks(1);
                due.is("strength " + 8 * metal + ", upper " + upper, x.ofLoop(0, 5), 8 * metal >= upper ? 1 : 0);
                due.is("counted", x.ofLoop(0, 6), 8 * metal >= upper ? 1 : 0);
            }
        }
    }

    /** "if it is on, and its strength is less than its lower bound, it switches off" */
    private static void lessThanTheLowerBound() {
        for (int metal : new int[] {1, 5, 9}) {
            for (int lower = 1; lower <= 200; lower++) {
                LoopListeners x = new LoopListeners();
                standing(x, 0, 3, metal, 5);
                x.loop(0, 4, 2, 1, 1);
                x.ticks(1);
                due.is("on", x.ofLoop(0, 5), 1);
                x.bounds(0, 200, lower);
                due.is("on until it listens", x.ofLoop(0, 5), 1);
                x.ticks(1);
                due.is("strength " + 8 * metal + ", lower " + lower, x.ofLoop(0, 5), 8 * metal < lower ? 0 : 1);
                due.is("counted once", x.ofLoop(0, 6), 1);
            }
        }
        LoopListeners y = new LoopListeners();
        y.loop(0, 4, 1, 1, 1);
        y.come(0, 1, 4, 1);
        y.ticks(1);
        due.is("on", y.ofLoop(0, 5), 1);
        y.ticks(1);
        due.is("no metal is less than the least lower bound", y.ofLoop(0, 5), 0);
    }

    /** "it switches on, and counts 1": not while it stays on, and once more after it was off */
    private static void countedWhenSwitchedOn() {
        LoopListeners x = new LoopListeners();
        x.loop(0, 10, 1, 20, 20);
        for (int car = 0; car < 5; car++) {
            x.come(0, 1, 1, 5);
            x.ticks(2);
        }
        x.ticks(20);
        due.is("a free cell between each two of them", x.ofLoop(0, 6), 5);
        due.is("passings", x.ofLoop(0, 7), 5);
        for (int car = 0; car < 5; car++) {
            x.come(0, 1, 1, 5);
            x.ticks(1);
        }
        x.ticks(20);
        due.is("close behind one another they are one", x.ofLoop(0, 6), 6);
        due.is("passings then", x.ofLoop(0, 7), 10);
    }

    private static void listensInItsTurnAlone() {
        LoopListeners x = new LoopListeners();
        x.loop(0, 5, 1, 10, 10);
        x.loop(0, 5, 1, 10, 10);
        x.set(LoopListeners.TURN, 3);
        standing(x, 0, 1, 9, 5);
        // the ticks 0 to 2 are of loop 0, 3 to 5 of loop 1: the car is there behind the tick 4
        due.is("0 was deaf then", x.ofLoop(0, 5) * 10 + x.ofLoop(0, 9), 3);
        due.is("1 heard it", x.ofLoop(1, 5) * 10 + x.ofLoop(1, 9), 12);
        x.ticks(1);
        due.is("0 is deaf still", x.ofLoop(0, 5), 0);
        x.ticks(1);
        due.is("0 hears it in the tick 6", x.ofLoop(0, 5) * 10 + x.ofLoop(0, 9), 14);
        x.speed(0, 4);
        x.ticks(1);
        due.is("0 hears that it is away", x.ofLoop(0, 5), 0);
        due.is("1 can't know it", x.ofLoop(1, 5), 1);
        x.ticks(1);
        due.is("nor in the tick 8", x.ofLoop(1, 5), 1);
        x.ticks(1);
        due.is("1 hears it in the tick 9", x.ofLoop(1, 5), 0);
        due.is("each counted one", x.ofLoop(0, 6) * 10 + x.ofLoop(1, 6), 11);
    }

    /** A loop "is off at first", also if there is metal over it. */
    private static void offAtFirst() {
        LoopListeners x = new LoopListeners();
        standing(x, 0, 4, 9, 10);
        for (int loop = 0; loop < 6; loop++) {
            x.loop(0, 8, 3, 1, 1);
            due.is("off", x.ofLoop(loop, 5), 0);
            due.is("counted", x.ofLoop(loop, 6), 0);
            due.is("listened", x.ofLoop(loop, 9), 0);
            due.is("strength", x.ofLoop(loop, 8), 108);
        }
        x.ticks(2);
        due.is("two listened: the tick 10 is of loop 4, the tick 11 of loop 5", x.ofLoop(4, 6) * 10 + x.ofLoop(5, 6), 11);
        due.is("the others are off", x.count(6), 2);
    }

    /** "Loops may lie over one another": all six in one place, each with what it counted and its passings */
    private static void overOneAnother() {
        LoopListeners x = new LoopListeners();
        for (int loop = 0; loop < 6; loop++) {
            due.is("loop", x.loop(1, 39, 1, 36, 36), loop);
        }
        standing(x, 1, 1, 9, 39);
        due.is("over all", x.ofCar(0, 9), 63);
        due.is("passed all", x.count(7), 6);
        x.ticks(6);
        due.is("heard by all", x.count(6), 6);
        for (int loop = 0; loop < 6; loop++) {
            due.is("each", x.ofLoop(loop, 6) * 10 + x.ofLoop(loop, 7), 11);
        }
    }

    /** "What a loop counted, less its passings, is its error": below 0, 0 and above it. */
    private static void errors() {
        LoopListeners x = new LoopListeners();
        x.loop(0, 5, 1, 200, 200);
        x.loop(1, 5, 1, 1, 1);
        x.set(LoopListeners.ACROSS, 8);
        due.is("none", x.error(0), 1000);
        // the tick in which a car comes to the cell 5 is of loop 1, as is the one two ticks before it
        x.ticks(1);
        for (int car = 0; car < 10; car++) {
            x.come(0, 1, 1, 9);
            x.ticks(4);
        }
        x.ticks(10);
        due.is("ten missed", x.error(0), 990);
        due.is("ten counted falsely", x.error(1), 1010);
        due.is("inside by what they counted", x.inside(0, 1), 990);
        due.is("the other way round", x.inside(1, 0), 1010);
    }

    /** As many ticks as 512 calls let pass: 510 times 100. */
    private static void thousandsOfTicks() {
        LoopListeners x = new LoopListeners();
        x.set(LoopListeners.TURN, 5);
        for (int times = 1; times <= 510; times++) {
            due.is("tick", x.ticks(100), 100 * times);
        }
        due.is("the 512th call", x.ticks(100), 51100);
        LoopListeners y = new LoopListeners();
        for (int loop = 0; loop < 3; loop++) {
            y.loop(0, 0, 1, 1, 1);
        }
        for (int times = 0; times < 500; times++) {
            y.ticks(100);
        }
        due.is("50000 of three", y.count(5), 50000 % 3);
        due.is("listened", y.ofLoop(0, 9), 16667);
        due.is("listened", y.ofLoop(2, 9), 16666);
    }
}
