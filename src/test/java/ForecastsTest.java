/**
 * Promises 15 to 19 on whole roads: what is told of the ticks to come is so when they have passed, with each bound and with
 * each turn tried out by calls.
 */
public final class ForecastsTest {
    private static final int[] TICKS = {1, 2, 3, 10, 41, 99, 100};
    private static final Due due = new Due();

    public static void main(String[] args) {
        for (Roads road : Roads.values()) {
            int loops = road.made().count(1);
            for (int loop = 0; loop < loops; loop++) {
                for (int ticks : TICKS) {
                    countsIn(road, loop, ticks);
                    countsAlone(road, loop, ticks);
                    bestUpper(road, loop, ticks);
                }
            }
            for (int ticks : TICKS) {
                bestTurn(road, ticks);
            }
            int cars = road.made().count(2);
            for (int car = 0; car < cars; car++) {
                goneIn(road, car);
            }
        }
        due.end();
    }

    private static void countsIn(Roads road, int loop, int ticks) {
        LoopListeners then = road.made();
        then.ticks(ticks);
        due.is(road + ": countsIn(" + loop + ", " + ticks + ")", road.made().countsIn(loop, ticks), then.ofLoop(loop, 6));
    }

    /** What a loop hears in each tick does not depend on who listens: its strength behind each tick switches it. */
    private static void countsAlone(Roads road, int loop, int ticks) {
        LoopListeners then = road.made();
        int loops = then.count(1);
        int counted = then.ofLoop(loop, 6);
        boolean on = then.ofLoop(loop, 5) == 1;
        for (int i = 0; i < ticks; i++) {
            then.ticks(1);
            int strength = then.ofLoop(loop, 8);
            if (!on && strength >= then.ofLoop(loop, 3)) {
                on = true;
                counted++;
            } else if (on && strength < then.ofLoop(loop, 4)) {
                on = false;
            }
        }
        due.is(road + ": countsAlone(" + loop + ", " + ticks + ") of " + loops, road.made().countsAlone(loop, ticks), counted);
    }

    private static void bestUpper(Roads road, int loop, int ticks) {
        int lower = road.made().ofLoop(loop, 4);
        int best = 0;
        int least = Integer.MAX_VALUE;
        for (int upper = lower; upper <= 200; upper++) {
            LoopListeners then = road.made();
            then.bounds(loop, upper, lower);
            then.ticks(ticks);
            int amount = Math.abs(then.error(loop) - 1000);
            if (amount < least) {
                least = amount;
                best = upper;
            }
        }
        due.is(road + ": bestUpper(" + loop + ", " + ticks + ")", road.made().bestUpper(loop, ticks), best);
    }

    private static void bestTurn(Roads road, int ticks) {
        int best = 0;
        int least = Integer.MAX_VALUE;
        for (int turn = 1; turn <= 5; turn++) {
            LoopListeners then = road.made();
            then.set(LoopListeners.TURN, turn);
            then.ticks(ticks);
            int amounts = 0;
            for (int loop = 0; loop < then.count(1); loop++) {
                amounts += Math.abs(then.error(loop) - 1000);
            }
            if (amounts < least) {
                least = amounts;
                best = turn;
            }
        }
        due.is(road + ": bestTurn(" + ticks + ")", road.made().bestTurn(ticks), best);
    }

    private static void goneIn(Roads road, int car) {
        int ticks = road.made().goneIn(car);
        LoopListeners then = road.made();
        for (int passed = 0; passed < 200; passed++) {
            boolean gone = then.ofCar(car, 5) == 1;
            due.is(road + ": car " + car + " is gone after " + passed, gone ? 1 : 0, ticks != LoopListeners.NONE && passed >= ticks ? 1 : 0);
            if (gone) {
                return;
            }
            then.ticks(1);
        }
        due.is(road + ": car " + car + " is there after 200", ticks, LoopListeners.NONE);
    }
}
