/**
 * Promises 24 to 26, and what they say of all changes, at their edges: each change is undone wholly, six states and one
 * more, histories that are emptied and filled many times, slots with all that there can be.
 */
public final class HistoryTest {
    private static final int NOT_POSSIBLE = LoopListeners.NOT_POSSIBLE;
    private static final Due due = new Due();

    private interface Call {
        int on(LoopListeners x);
    }

    public static void main(String[] args) {
        undoneWholly();
        undoneCarryOut();
        undoIsNoChange();
        eachNumberOfChanges();
        emptiedAndFilled();
        eachChangeDropsTheOldest();
        refusedWhenFull();
        notChanges();
        nothingSaved();
        savedWholly();
        savedAtFirst();
        slotsKeep();
        carsAfterSlots();
        loopsAfterUndo();
        the512thCall();
        due.end();
    }

    /** "everything except the pad, the slots and the history is as it was before it", also what nothing is different by */
    private static void undoneWholly() {
        undoneWholly("set ACROSS", x -> x.set(LoopListeners.ACROSS, 8));
        undoneWholly("set TURN", x -> x.set(LoopListeners.TURN, 5));
        undoneWholly("set ACROSS to what it is", x -> x.set(LoopListeners.ACROSS, x.count(10)));
        undoneWholly("loop", x -> x.loop(0, 0, 3, 4, 2));
        undoneWholly("bounds", x -> x.bounds(0, 200, 200));
        undoneWholly("bounds as they are", x -> x.bounds(0, 20, 10));
        undoneWholly("come", x -> x.come(1, 4, 3, 9));
        undoneWholly("want", x -> x.want(1));
        undoneWholly("want no more", x -> x.want(2));
        undoneWholly("speed", x -> x.speed(1, 0));
        undoneWholly("speed as it is", x -> x.speed(1, 3));
        undoneWholly("ticks(1)", x -> x.ticks(1));
        undoneWholly("ticks(100)", x -> x.ticks(100));
        undoneWholly("restore", x -> x.restore(1));
    }

    private static void undoneWholly(String name, Call change) {
        for (int view = 0; view < Views.MANY; view++) {
            LoopListeners x = Roads.BUSY.made();
            due.is(name + " is no error", change.on(x) >= 0 ? 1 : 0, 1);
            due.is(name + " is recorded", x.count(9), 6);
            due.is(name + " is undone", x.undo(), 5);
            due.is("view " + view + " behind " + name, Views.of(x, view), Views.of(Roads.BUSY.made(), view));
        }
    }

    private static void undoneCarryOut() {
        for (int view = 0; view < Views.MANY; view++) {
            LoopListeners x = Roads.BUSY.made();
            due.is("carryOut", x.carryOut(), 2);
            due.is("is recorded once", x.count(9), 6);
            due.is("is undone", x.undo(), 5);
            LoopListeners wiped = Roads.BUSY.made();
            wiped.wipe();
            due.is("view " + view + " behind carryOut: the pad stays empty", Views.of(x, view), Views.of(wiped, view));
        }
    }

    /** What was undone does not come back by undoing. */
    private static void undoIsNoChange() {
        LoopListeners x = new LoopListeners();
        x.ticks(1);
        x.ticks(2);
        due.is("undo", x.undo(), 1);
        due.is("undo again goes back further", x.undo(), 0);
        due.is("tick", x.count(0), 0);
        due.is("none", x.undo(), NOT_POSSIBLE);
        due.is("tick", x.count(0), 0);
    }

    /** "A history of at most 6 states is kept": no change, some, six, one more, and many more */
    private static void eachNumberOfChanges() {
        for (int many = 0; many <= 40; many++) {
            LoopListeners x = new LoopListeners();
            for (int i = 1; i <= many; i++) {
                x.ticks(i);
                due.is("changes kept of " + i, x.count(9), Math.min(i, 6));
            }
            int kept = Math.min(many, 6);
            for (int undone = 1; undone <= kept; undone++) {
                due.is("undo " + undone + " of " + many, x.undo(), kept - undone);
                int left = many - undone;
                due.is("tick", x.count(0), left * (left + 1) / 2);
            }
            due.is("no more of " + many, x.undo(), NOT_POSSIBLE);
        }
    }

    private static void emptiedAndFilled() {
        for (int back = 1; back <= 6; back++) {
            for (int on = 1; on <= 7; on++) {
                LoopListeners x = new LoopListeners();
                java.util.List<Integer> states = new java.util.ArrayList<>();
                int tick = 0;
                for (int round = 0; round < 8; round++) {
                    for (int i = 0; i < on; i++) {
                        states.add(tick);
                        tick += 1 + round;
                        due.is("tick", x.ticks(1 + round), tick);
                        if (states.size() > 6) {
                            states.remove(0);
                        }
                    }
                    for (int i = 0; i < back; i++) {
                        int then = states.isEmpty() ? NOT_POSSIBLE : states.size() - 1;
                        due.is("undo", x.undo(), then);
                        tick = states.isEmpty() ? tick : states.remove(states.size() - 1);
                        due.is("tick then", x.count(0), tick);
                    }
                }
            }
        }
    }

    /** "when one more is recorded, the oldest one is dropped": by each method that is a change */
    private static void eachChangeDropsTheOldest() {
        Call[] changes = {
            x -> x.set(0, 1), x -> x.loop(0, 0, 1, 1, 1), x -> x.bounds(0, 1, 1), x -> x.come(0, 1, 1, 1), x -> x.want(0),
            x -> x.speed(0, 1), x -> x.ticks(1), x -> x.carryOut(), x -> x.restore(0),
        };
        for (int change = 0; change < changes.length; change++) {
            LoopListeners x = new LoopListeners();
            x.loop(1, 0, 1, 1, 1);
            x.come(1, 1, 1, 1);
            x.save(0);
            x.put('w' << 8 | '7');
            for (int i = 0; i < 6; i++) {
                x.ticks(1);
            }
            due.is("full ahead of change " + change, x.count(9), 6);
            due.is("change " + change, changes[change].on(x) >= 0 ? 1 : 0, 1);
            due.is("full still", x.count(9), 6);
            for (int i = 0; i < 6; i++) {
                due.is("undo", x.undo(), 5 - i);
                due.is("tick", x.count(0), 6 - i);
            }
            due.is("the state ahead of the first tick was dropped", x.undo(), NOT_POSSIBLE);
        }
    }

    /** "and returns no error": what is refused drops nothing */
    private static void refusedWhenFull() {
        LoopListeners x = new LoopListeners();
        for (int i = 0; i < 6; i++) {
            x.ticks(1);
        }
        x.set(0, 9);
        x.loop(2, 0, 1, 1, 1);
        x.bounds(0, 1, 1);
        x.come(2, 1, 1, 1);
        x.want(0);
        x.speed(0, 1);
        x.ticks(101);
        x.carryOut();
        x.restore(0);
        x.restore(2);
        due.is("changes", x.count(9), 6);
        for (int i = 0; i < 6; i++) {
            due.is("undo", x.undo(), 5 - i);
            due.is("tick", x.count(0), 5 - i);
        }
    }

    /** What is not said to be a change records nothing: putting, wiping, saving, asking. */
    private static void notChanges() {
        LoopListeners x = new LoopListeners();
        x.loop(0, 0, 1, 1, 1);
        x.come(0, 1, 1, 1);
        Call[] calls = {
            y -> y.ofCar(0, 0), y -> y.ofLoop(0, 0), y -> y.error(0), y -> y.carAt(0, 0), y -> y.count(0), y -> y.inside(0, 0),
            y -> y.countsIn(0, 1), y -> y.countsAlone(0, 1), y -> y.bestUpper(0, 1), y -> y.bestTurn(1), y -> y.goneIn(0),
            y -> y.put('t'), y -> y.fault(), y -> y.wipe(), y -> y.save(0), y -> y.save(1),
        };
        for (int call = 0; call < calls.length; call++) {
            due.is("call " + call + " is no error", calls[call].on(x) >= 0 ? 1 : 0, 1);
            due.is("call " + call + " is no change", x.count(9), 2);
        }
        due.is("undo", x.undo(), 1);
        due.is("the car is undone", x.count(2), 0);
    }

    /** "NOT_POSSIBLE if nothing was saved in it": each slot by itself */
    private static void nothingSaved() {
        for (int slot = 0; slot < 2; slot++) {
            LoopListeners x = new LoopListeners();
            due.is("nothing in it", x.restore(slot), NOT_POSSIBLE);
            x.ticks(3);
            due.is("save", x.save(1 - slot), 3);
            due.is("nothing in it, though there is in the other one", x.restore(slot), NOT_POSSIBLE);
            x.undo();
            due.is("saving is not undone", x.restore(1 - slot), 3);
            due.is("nothing in it still", x.restore(slot), NOT_POSSIBLE);
            due.is("save", x.save(slot), 3);
            due.is("now there is", x.restore(slot), 3);
        }
    }

    /** Saving and restoring bring all back, with an empty road, a full one, and one on which much goes on. */
    private static void savedWholly() {
        for (Roads road : Roads.values()) {
            for (int slot = 0; slot < 2; slot++) {
                for (int view = 0; view < Views.MANY; view++) {
                    if (view != 5) {
                        LoopListeners x = road.made();
                        x.save(slot);
                        changeMuch(x);
                        due.is("restore", x.restore(slot), road.made().count(0));
                        LoopListeners same = road.made();
                        same.save(slot);
                        for (int i = 0; i < 6; i++) {
                            same.set(LoopListeners.ACROSS, same.count(10));
                        }
                        due.is("view " + view + " of a restored " + road + " one", Views.of(x, view), Views.of(same, view));
                    }
                }
            }
        }
    }

    private static void changeMuch(LoopListeners x) {
        for (int car = 0; car < 40; car++) {
            x.want(car);
            x.speed(car, car % 5);
        }
        x.bounds(0, 5, 5);
        x.set(LoopListeners.TURN, 4);
        x.set(LoopListeners.ACROSS, 8);
        x.ticks(1);
        x.loop(1, 30, 3, 7, 3);
        x.come(0, 4, 4, 9);
        x.come(1, 3, 2, 1);
        x.ticks(5);
        x.ticks(100);
    }

    /** A state with the tick 0 is saved and restored as any other. */
    private static void savedAtFirst() {
        LoopListeners x = new LoopListeners();
        due.is("save", x.save(1), 0);
        x.come(0, 1, 1, 1);
        x.loop(0, 0, 1, 1, 1);
        x.ticks(100);
        due.is("restore", x.restore(1), 0);
        due.is("cars", x.count(2), 0);
        due.is("loops", x.count(1), 0);
        due.is("changes", x.count(9), 4);
        due.is("undo", x.undo(), 3);
        due.is("tick", x.count(0), 100);
        due.is("cars", x.count(2), 1);
    }

    /** "which keeps it", "and overwrites what was saved there" */
    private static void slotsKeep() {
        LoopListeners x = new LoopListeners();
        x.ticks(1);
        x.save(0);
        x.save(1);
        for (int times = 0; times < 10; times++) {
            x.ticks(5);
            due.is("slot 0", x.restore(0), 1);
            x.ticks(7);
            due.is("slot 1", x.restore(1), 1);
        }
        x.ticks(9);
        due.is("saved over slot 0", x.save(0), 10);
        due.is("slot 1 is as it was", x.restore(1), 1);
        due.is("slot 0 is not", x.restore(0), 10);
        x.undo();
        x.undo();
        due.is("undoing leaves the slots", x.restore(0), 10);
    }

    /** A number that a car had that is not there any more is given to another car, with nothing of the first one. */
    private static void carsAfterSlots() {
        LoopListeners x = new LoopListeners();
        x.loop(0, 0, 2, 1, 1);
        x.save(0);
        x.come(0, 1, 1, 1);
        x.want(0);
        x.ticks(1);
        x.want(0);
        x.ticks(2);
        x.want(0);
        x.ticks(100);
        due.is("gone", x.ofCar(0, 5), 1);
        due.is("changed", x.ofCar(0, 7), 3);
        x.restore(0);
        due.is("a car comes", x.come(0, 2, 2, 2), 0);
        int[] numbers = {0, 0, 2, 2, 2, 0, 0, 0, 0, 1};
        for (int what = 0; what < 10; what++) {
            due.is("ofCar(0, " + what + ")", x.ofCar(0, what), numbers[what]);
        }
        due.is("is on the road", x.count(3), 1);
        x.speed(0, 1);
        x.ticks(1);
        due.is("and passes the loop", x.ofLoop(0, 7), 1);
        x.undo();
        x.undo();
        x.undo();
        x.come(1, 4, 1, 1);
        x.ticks(1);
        due.is("another one in its stead", x.ofCar(0, 0) * 10 + x.ofCar(0, 1), 11);
        due.is("passes no loop", x.ofLoop(0, 7), 0);
    }

    /** A number that a loop had that is not there any more is given to another loop, with nothing of the first one. */
    private static void loopsAfterUndo() {
        LoopListeners x = new LoopListeners();
        x.come(0, 1, 1, 9);
        x.save(0);
        x.loop(0, 1, 1, 1, 1);
        x.ticks(1);
        due.is("on, counted, passed, listened", x.ofLoop(0, 5) + x.ofLoop(0, 6) + x.ofLoop(0, 7) + x.ofLoop(0, 9), 4);
        x.restore(0);
        due.is("no loop", x.ofLoop(0, 0), LoopListeners.NO_SUCH);
        due.is("a loop", x.loop(1, 5, 3, 200, 100), 0);
        int[] numbers = {1, 5, 3, 200, 100, 0, 0, 0, 0, 0};
        for (int what = 0; what < 10; what++) {
            due.is("ofLoop(0, " + what + ")", x.ofLoop(0, what), numbers[what]);
        }
        x.undo();
        x.loop(0, 1, 1, 1, 1);
        x.ticks(1);
        due.is("the same loop anew is passed anew", x.ofLoop(0, 7), 1);
    }

    /** "An object is used for at most 512 calls": also the last one of them is answered. */
    private static void the512thCall() {
        LoopListeners x = new LoopListeners();
        for (int call = 1; call <= 506; call++) {
            x.set(call % 2, 1 + call % 5);
        }
        due.is("507", x.come(0, 1, 1, 1), 0);
        due.is("508", x.ticks(100), 100);
        due.is("509", x.undo(), 5);
        due.is("510", x.save(1), 0);
        due.is("511", x.restore(1), 0);
        due.is("512", x.goneIn(0), 40);
    }
}
