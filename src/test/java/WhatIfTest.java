/** Promises 14 to 19: inside, countsIn, countsAlone, bestUpper, bestTurn, goneIn. */
public final class WhatIfTest {
    private static final Due due = new Due();

    public static void main(String[] args) {
        inside();
        countsInArguments();
        countsIn();
        countsAlone();
        bestUpperArguments();
        bestUpperMissed();
        bestUpperFalse();
        bestUpperOfSeveral();
        bestUpperOfTwoHundred();
        bestUpperOfEachStrength();
        bestUpperWhenOn();
        bestUpperKeepsTurns();
        bestTurn();
        bestTurnOfEach();
        bestTurnAmounts();
        goneIn();
        goneInBehindAnother();
        nothingChanges();
        due.end();
    }

    private static void inside() {
        LoopListeners x = new LoopListeners();
        due.is("no loops", x.inside(0, 0), LoopListeners.NO_SUCH);
        x.loop(0, 3, 1, 10, 5);
        x.loop(0, 20, 1, 10, 5);
        due.is("loop -1", x.inside(-1, 0), LoopListeners.NO_SUCH);
        due.is("loop 2", x.inside(2, 0), LoopListeners.NO_SUCH);
        due.is("other -1", x.inside(0, -1), LoopListeners.NO_SUCH);
        due.is("other 2", x.inside(0, 2), LoopListeners.NO_SUCH);
        due.is("other 6", x.inside(0, 6), LoopListeners.NO_SUCH);
        due.is("none", x.inside(0, 1), 1000);
        x.come(0, 4, 1, 9);
        x.ticks(10);
        due.is("one", x.inside(0, 1), 1001);
        due.is("the other way round", x.inside(1, 0), 999);
        due.is("itself", x.inside(0, 0), 1000);
        x.come(0, 4, 1, 9);
        x.ticks(6);
        due.is("two", x.inside(0, 1), 1002);
        x.ticks(6);
        due.is("the first is through", x.inside(0, 1), 1001);
        x.ticks(20);
        due.is("none again", x.inside(0, 1), 1000);
    }

    private static void countsInArguments() {
        LoopListeners x = new LoopListeners();
        due.is("countsIn, no loop, bad ticks", x.countsIn(0, 0), LoopListeners.NO_SUCH);
        due.is("countsAlone, no loop, bad ticks", x.countsAlone(0, 0), LoopListeners.NO_SUCH);
        x.loop(0, 3, 1, 10, 5);
        int[] noLoops = {-1, 1, 6, Integer.MAX_VALUE, Integer.MIN_VALUE};
        for (int loop : noLoops) {
            due.is("countsIn of loop " + loop, x.countsIn(loop, 1), LoopListeners.NO_SUCH);
            due.is("countsAlone of loop " + loop, x.countsAlone(loop, 1), LoopListeners.NO_SUCH);
        }
        int[] noTicks = {-1, 0, 101, Integer.MAX_VALUE, Integer.MIN_VALUE};
        for (int ticks : noTicks) {
            due.is("countsIn after " + ticks, x.countsIn(0, ticks), LoopListeners.BAD_VALUE);
            due.is("countsAlone after " + ticks, x.countsAlone(0, ticks), LoopListeners.BAD_VALUE);
        }
    }

    private static void countsIn() {
        LoopListeners x = new LoopListeners();
        x.loop(0, 10, 1, 10, 5);
        x.loop(1, 0, 1, 200, 200);
        x.come(0, 1, 1, 5);
        due.is("at 9 as yet", x.countsIn(0, 9), 0);
        due.is("at 10, but the other one listens", x.countsIn(0, 10), 0);
        due.is("alone, at 9", x.countsAlone(0, 9), 0);
        due.is("alone, at 10", x.countsAlone(0, 10), 1);
        due.is("missed for good", x.countsIn(0, 100), 0);
        x.ticks(1);
        x.come(0, 1, 1, 5);
        due.is("the next car is heard", x.countsIn(0, 10), 1);
        due.is("a tick before it is not", x.countsIn(0, 9), 0);
        due.is("alone, both are heard as one, as none is between them", x.countsAlone(0, 100), 1);
        x.ticks(30);
        due.is("it was so", x.ofLoop(0, 6), 1);
        due.is("what it counted stays counted", x.countsIn(0, 1), 1);
        due.is("alone too", x.countsAlone(0, 100), 1);
    }

    private static void countsAlone() {
        LoopListeners x = new LoopListeners();
        x.loop(0, 2, 1, 10, 5);
        x.loop(0, 4, 1, 10, 5);
        x.set(LoopListeners.TURN, 5);
        x.come(0, 1, 1, 9);
        x.ticks(2);
        due.is("on by then", x.ofLoop(0, 5), 1);
        x.come(0, 1, 1, 9);
        x.ticks(1);
        due.is("off between them", x.ofLoop(0, 5), 0);
        due.is("the second car is counted", x.countsAlone(0, 1), 2);
        due.is("also by turns", x.countsIn(0, 1), 2);
        due.is("the second loop alone hears the first car", x.countsAlone(1, 1), 1);
        due.is("by turns not", x.countsIn(1, 1), 0);
        due.is("alone, both", x.countsAlone(1, 10), 2);
        due.is("by turns, the second one", x.countsIn(1, 10), 1);
        due.is("the other one counts no more while one is alone", x.ofLoop(0, 6), 1);
    }

    private static void bestUpperArguments() {
        LoopListeners x = new LoopListeners();
        due.is("no loop, bad ticks", x.bestUpper(0, 0), LoopListeners.NO_SUCH);
        x.loop(0, 3, 1, 200, 150);
        due.is("loop -1", x.bestUpper(-1, 1), LoopListeners.NO_SUCH);
        due.is("loop 1", x.bestUpper(1, 1), LoopListeners.NO_SUCH);
        due.is("loop 6", x.bestUpper(6, 1), LoopListeners.NO_SUCH);
        due.is("ticks 0", x.bestUpper(0, 0), LoopListeners.BAD_VALUE);
        due.is("ticks 101", x.bestUpper(0, 101), LoopListeners.BAD_VALUE);
        due.is("ticks 1", x.bestUpper(0, 1), 150);
        due.is("ticks 100", x.bestUpper(0, 100), 150);
        x.bounds(0, 200, 200);
        due.is("200 alone", x.bestUpper(0, 100), 200);
        x.bounds(0, 1, 1);
        due.is("the lower bound", x.bestUpper(0, 100), 1);
    }

    private static void bestUpperMissed() {
        LoopListeners x = new LoopListeners();
        x.loop(0, 3, 1, 100, 10);
        x.come(0, 1, 1, 5);
        due.is("it would be missed", x.countsIn(0, 10), 0);
        due.is("any up to 20 would do: the least", x.bestUpper(0, 10), 10);
        x.bounds(0, 100, 20);
        due.is("just 20 would do", x.bestUpper(0, 10), 20);
        x.bounds(0, 100, 21);
        due.is("none would do: the least", x.bestUpper(0, 10), 21);
    }

    private static void bestUpperFalse() {
        LoopListeners x = new LoopListeners();
        x.set(LoopListeners.ACROSS, 4);
        x.loop(0, 3, 1, 1, 1);
        x.come(1, 1, 1, 9);
        due.is("it would be counted falsely", x.countsIn(0, 10), 1);
        due.is("36 is the strength by the metal beside", x.bestUpper(0, 10), 37);
        due.is("two ticks ahead of it, 1 would do", x.bestUpper(0, 2), 1);
        x.set(LoopListeners.ACROSS, 8);
        x.speed(0, 3);
        due.is("72 by a greater setting", x.bestUpper(0, 1), 73);
        x.ticks(1);
        due.is("the error is there, no bound mends it", x.bestUpper(0, 50), 1);
    }

    private static void bestUpperOfSeveral() {
        LoopListeners x = new LoopListeners();
        x.loop(0, 6, 1, 4, 4);
        x.come(0, 1, 2, 4);
        x.come(1, 1, 2, 5);
        x.ticks(1);
        x.come(0, 1, 1, 2);
        x.speed(1, 1);
        // strengths: front 0 passes at 6 with 4 * 4, front 1 beside at 6 with 5, front 2 at 6 with 4 * 2
        due.is("beside and over: both passings, and not the one beside", x.bestUpper(0, 10), 6);
        x.bounds(0, 4, 1);
        due.is("a lower one", x.bestUpper(0, 10), 6);
    }

    private static void bestUpperOfTwoHundred() {
        LoopListeners x = new LoopListeners();
        x.set(LoopListeners.ACROSS, 7);
        x.come(0, 3, 2, 9);
        x.come(1, 1, 2, 9);
        x.ticks(1);
        x.come(1, 1, 1, 4);
        for (int car = 0; car < 3; car++) {
            x.speed(car, 0);
        }
        x.loop(0, 0, 3, 1, 1);
        due.is("4 * 27 and 7 * 13", x.ofLoop(0, 8), 199);
        due.is("counted falsely, as it was laid under the car, but with 200", x.bestUpper(0, 1), 200);
        x.bounds(0, 200, 200);
        due.is("200 is the lower bound too", x.bestUpper(0, 1), 200);
        x.bounds(0, 200, 199);
        due.is("200 still", x.bestUpper(0, 100), 200);
        x.set(LoopListeners.ACROSS, 8);
        due.is("4 * 27 and 8 * 13", x.ofLoop(0, 8), 212);
        due.is("no bound is great enough", x.bestUpper(0, 1), 199);
    }

    /** "at most 200", "of several the least one": one above what is heard falsely, or the lower bound if that is too much. */
    private static void bestUpperOfEachStrength() {
        for (int across = 0; across <= 8; across++) {
            for (int metal = 1; metal <= 9; metal++) {
                LoopListeners x = new LoopListeners();
                x.set(LoopListeners.ACROSS, across);
                x.come(1, 3, 2, metal);
                x.ticks(4);
                x.speed(0, 0);
                x.loop(0, 6, 3, 200, 1);
                x.loop(0, 6, 3, 200, 50);
                int strength = across * 3 * metal;
                due.is("three cells beside of " + metal + " by " + across, x.ofLoop(0, 8), strength);
                due.is("lower 1, strength " + strength, x.bestUpper(0, 1), strength < 200 ? strength + 1 : 1);
                due.is("lower 50, strength " + strength, x.bestUpper(1, 2), strength < 200 ? Math.max(50, strength + 1) : 50);
            }
        }
        LoopListeners y = new LoopListeners();
        y.set(LoopListeners.ACROSS, 4);
        y.come(0, 4, 4, 9);
        y.come(1, 2, 4, 9);
        y.ticks(1);
        y.come(1, 1, 1, 5);
        for (int car = 0; car < 3; car++) {
            y.speed(car, 0);
        }
        y.loop(0, 2, 3, 7, 7);
        due.is("three cells of 9, two beside of 9", y.ofLoop(0, 8), 4 * 27 + 4 * 18);
        y.speed(2, 2);
        y.ticks(1);
        due.is("and one of 5", y.ofLoop(0, 8), 200);
        y.undo();
        due.is("with 200 it counts, too: of all the least one", y.bestUpper(0, 2), 7);
        y.undo();
        due.is("without the last one 181 would do", y.bestUpper(0, 2), 181);
    }

    /** A loop that is on, as a car stands on it, counts nothing with any bound. */
    private static void bestUpperWhenOn() {
        LoopListeners x = new LoopListeners();
        x.loop(0, 2, 1, 10, 4);
        x.come(0, 1, 2, 9);
        x.ticks(1);
        x.speed(0, 0);
        due.is("on", x.ofLoop(0, 5), 1);
        for (int ticks : new int[] {1, 2, 99, 100}) {
            due.is("its lower bound after " + ticks, x.bestUpper(0, ticks), 4);
            due.is("and again", x.bestUpper(0, ticks), 4);
        }
        x.bounds(0, 200, 36);
        due.is("not less than the lower bound", x.bestUpper(0, 100), 36);
        x.bounds(0, 200, 37);
        due.is("less than it: off, and not on again", x.bestUpper(0, 100), 37);
    }

    private static void bestUpperKeepsTurns() {
        LoopListeners x = new LoopListeners();
        x.loop(0, 3, 2, 10, 1);
        x.loop(1, 30, 1, 1, 1);
        x.come(0, 1, 1, 9);
        x.come(1, 1, 1, 3);
        x.speed(1, 4);
        x.ticks(2);
        // loop 0 listens in the ticks 2, 4, 6: the car is at 3, 5, 7 behind them
        due.is("counted by its turn", x.bestUpper(0, 2), 1);
        x.ticks(1);
        due.is("on, and counted", x.ofLoop(0, 6), 1);
        due.is("bounds below its count do no harm", x.bestUpper(0, 3), 1);
        LoopListeners y = new LoopListeners();
        y.loop(0, 3, 1, 10, 1);
        y.loop(1, 30, 1, 1, 1);
        y.ticks(1);
        y.come(0, 1, 1, 9);
        due.is("missed by its turn with all bounds", y.bestUpper(0, 20), 1);
        due.is("so it would count none", y.countsIn(0, 20), 0);
        due.is("alone it would", y.countsAlone(0, 20), 1);
        LoopListeners z = new LoopListeners();
        z.set(LoopListeners.ACROSS, 4);
        z.loop(0, 3, 1, 10, 1);
        z.loop(1, 30, 1, 1, 1);
        z.ticks(1);
        z.come(1, 1, 1, 9);
        due.is("what is beside in the turn of the other loop does no harm", z.bestUpper(0, 20), 1);
        z.undo();
        z.ticks(1);
        z.come(1, 1, 1, 9);
        due.is("what is beside in its own turn does", z.bestUpper(0, 20), 37);
    }

    private static void bestTurn() {
        LoopListeners x = new LoopListeners();
        due.is("ticks 0", x.bestTurn(0), LoopListeners.BAD_VALUE);
        due.is("ticks 101", x.bestTurn(101), LoopListeners.BAD_VALUE);
        due.is("ticks -1", x.bestTurn(-1), LoopListeners.BAD_VALUE);
        due.is("no loops: all are as good", x.bestTurn(100), 1);
        x.set(LoopListeners.TURN, 4);
        due.is("no loops: not the one that is set", x.bestTurn(1), 1);
        x.set(LoopListeners.ACROSS, 0);
        x.loop(0, 3, 1, 10, 5);
        x.loop(1, 39, 1, 200, 200);
        x.come(0, 1, 1, 9);
        // at 3 behind the tick 2: the loop 0 listens in it with TURN 1, 3, 4 and 5, and not with 2
        due.is("1 hears it", x.bestTurn(10), 1);
        LoopListeners y = new LoopListeners();
        y.ticks(1);
        y.set(LoopListeners.ACROSS, 0);
        y.loop(0, 3, 1, 10, 5);
        y.loop(1, 39, 1, 200, 200);
        y.come(0, 1, 1, 9);
        // at 3 behind the tick 3: with TURN 1, 2 and 3 it is the turn of loop 1
        due.is("4 hears it", y.bestTurn(10), 4);
        due.is("just then", y.bestTurn(3), 4);
        due.is("ahead of it all are as good", y.bestTurn(2), 1);
        y.ticks(5);
        due.is("missed: no turn mends it", y.bestTurn(10), 1);
        y.ticks(15);
        due.is("tick", y.count(0), 21);
        y.come(0, 1, 1, 9);
        // at 3 behind the tick 23: the turn of loop 0 just with TURN 5
        due.is("5 hears it", y.bestTurn(10), 5);
    }

    /**
     * "1 to 5": each turn alone is the best one. A car is over loop 0 behind one tick alone, in which it is the turn of
     * loop 0 with just one of the turns 1 to 6.
     */
    private static void bestTurnOfEach() {
        int[][] tickOfTurn = {{1, 46}, {2, 45}, {3, 7}, {4, 35}, {5, 23}, {6, 15}};
        for (int[] turn : tickOfTurn) {
            for (int set = 1; set <= 5; set++) {
                LoopListeners x = new LoopListeners();
                x.ticks(turn[1] - 3);
                x.set(LoopListeners.ACROSS, 0);
                x.set(LoopListeners.TURN, set);
                x.loop(0, 4, 1, 10, 5);
                x.loop(1, 39, 1, 200, 200);
                x.come(0, 1, 1, 9);
                due.is("the best one is " + turn[0] + ", if it is none above 5", x.bestTurn(10), turn[0] <= 5 ? turn[0] : 1);
                due.is("just then", x.bestTurn(4), turn[0] <= 5 ? turn[0] : 1);
                due.is("ahead of it all are as good", x.bestTurn(3), 1);
                due.is("with the one that is set", x.countsIn(0, 10), set == turn[0] ? 1 : 0);
                due.is("it is still set", x.count(11), set);
            }
        }
    }

    private static void bestTurnAmounts() {
        LoopListeners x = new LoopListeners();
        x.set(LoopListeners.ACROSS, 1);
        // loop 0 counts falsely what is beside, loop 1 misses what is too light: these must not make up for one another
        x.loop(0, 3, 1, 1, 1);
        x.loop(1, 3, 1, 200, 200);
        x.come(1, 1, 1, 9);
        // at 3 behind the tick 2: with TURN 1, 3, 4 and 5 loop 0 listens and counts falsely, with 2 it does not
        due.is("amounts together", x.bestTurn(3), 2);
        due.is("both as yet 0", x.bestTurn(2), 1);
        due.is("all ticks", x.bestTurn(100), 2);
    }

    private static void goneIn() {
        LoopListeners x = new LoopListeners();
        due.is("no car", x.goneIn(0), LoopListeners.NO_SUCH);
        x.come(0, 1, 4, 1);
        x.come(1, 4, 1, 1);
        due.is("car -1", x.goneIn(-1), LoopListeners.NO_SUCH);
        due.is("car 2", x.goneIn(2), LoopListeners.NO_SUCH);
        due.is("car 40", x.goneIn(40), LoopListeners.NO_SUCH);
        due.is("40 cells by 4", x.goneIn(0), 10);
        due.is("43 cells by 1", x.goneIn(1), 43);
        x.speed(0, 0);
        due.is("never", x.goneIn(0), LoopListeners.NONE);
        x.speed(0, 1);
        due.is("40 cells by 1", x.goneIn(0), 40);
        x.want(0);
        due.is("wants, but finds no room, and as much as before", x.goneIn(0), 40);
        x.ticks(1);
        x.ticks(38);
        due.is("in the next tick", x.goneIn(0), 1);
        x.ticks(1);
        due.is("gone", x.goneIn(0), 0);
        x.ticks(50);
        due.is("gone for long", x.goneIn(0), 0);
        x.come(0, 1, 4, 1);
        x.want(2);
        due.is("one tick more by changing its lane", x.goneIn(2), 11);
        x.come(1, 1, 1, 1);
        due.is("it changes a tick later, as there is no room at first", x.goneIn(2), 11);
    }

    private static void goneInBehindAnother() {
        LoopListeners x = new LoopListeners();
        x.come(0, 1, 1, 1);
        x.speed(0, 0);
        x.come(1, 1, 1, 1);
        x.ticks(3);
        x.want(1);
        x.ticks(1);
        due.is("car 1 is ahead of car 0", x.ofCar(1, 1), 3);
        x.speed(0, 4);
        x.speed(1, 0);
        due.is("0 can't pass 1", x.goneIn(0), LoopListeners.NONE);
        x.want(0);
        due.is("but beside it", x.goneIn(0), 11);
        x.undo();
        x.speed(1, 1);
        due.is("40 - 3 ticks for the one ahead", x.goneIn(1), 37);
        due.is("the one behind it comes on by its whole speed when it is gone", x.goneIn(0), 37);
        x.speed(0, 1);
        due.is("from the cell 0 by 1", x.goneIn(0), 40);
    }

    private static void nothingChanges() {
        LoopListeners x = new LoopListeners();
        x.loop(0, 3, 3, 20, 5);
        x.loop(1, 3, 3, 20, 5);
        x.come(0, 2, 2, 7);
        x.come(1, 2, 1, 4);
        x.ticks(1);
        x.come(0, 1, 4, 4);
        x.want(2);
        x.want(1);
        String before = stateOf(x);
        due.is("countsIn", x.countsIn(0, 100), 1);
        x.countsAlone(1, 100);
        x.bestUpper(0, 100);
        x.bestTurn(100);
        x.goneIn(2);
        x.inside(0, 1);
        due.is("the state is as it was", before.equals(stateOf(x)) ? 1 : 0, 1);
        due.is("undo is as it was", x.undo(), 5);
        due.is("the wish is taken back", x.ofCar(1, 6), 0);
    }

    private static String stateOf(LoopListeners x) {
        StringBuilder state = new StringBuilder();
        for (int what = 0; what < 12; what++) {
            state.append(x.count(what)).append(' ');
            for (int car = 0; car < x.count(2); car++) {
                state.append(x.ofCar(car, what)).append(' ');
            }
            for (int loop = 0; loop < x.count(1); loop++) {
                state.append(x.ofLoop(loop, what)).append(' ');
            }
        }
        for (int cell = 0; cell < 80; cell++) {
            state.append(x.carAt(cell / 40, cell % 40)).append(' ');
        }
        return state.toString();
    }
}
