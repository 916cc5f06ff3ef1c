import java.util.ArrayList;
import java.util.List;

/**
 * The range of each argument of each call: each value of it is taken, and what is below or above it is refused: one
 * below, one above, values that would be in the range if their upper bits were lost, the least and the greatest int.
 */
public final class RangesTest {
    private static final Due due = new Due();

    /** A call with one argument of interest, on an object of its own. */
    private interface Call {
        int with(int value);
    }

    public static void main(String[] args) {
        settings();
        loop();
        bounds();
        come();
        cars();
        ticks();
        whatThereIs();
        whatIf();
        slots();
        due.end();
    }

    private static List<Integer> beyond(int least, int most) {
        List<Integer> beyond = new ArrayList<>();
        long[] far = {least - 1, least - 2, most + 1, most + 2, Integer.MIN_VALUE, Integer.MIN_VALUE + 1, Integer.MAX_VALUE - 1, Integer.MAX_VALUE};
        for (long value : far) {
            beyond.add((int) value);
        }
        for (int bit = 8; bit < 32; bit++) {
            beyond.add(least + (1 << bit));
            beyond.add(most + (1 << bit));
            beyond.add(least - (1 << bit));
            beyond.add(most - (1 << bit));
        }
        beyond.removeIf(value -> value >= least && value <= most);
        return beyond;
    }

    /** No value is in a range whose least value is above its greatest one. */
    private static void range(String name, int least, int most, int error, Call call) {
        for (int value = least; value <= most; value++) {
            int answer = call.with(value);
            due.is(name + " with " + value + " is taken, by " + answer, answer >= 0 || answer == LoopListeners.NONE ? 1 : 0, 1);
        }
        for (int value : beyond(least, most)) {
            due.is(name + " with " + value, call.with(value), error);
        }
    }

    private static void settings() {
        range("set a setting", 0, 1, LoopListeners.BAD_VALUE, v -> new LoopListeners().set(v, 1));
        range("set ACROSS", 0, 8, LoopListeners.BAD_VALUE, v -> new LoopListeners().set(LoopListeners.ACROSS, v));
        range("set TURN", 1, 5, LoopListeners.BAD_VALUE, v -> new LoopListeners().set(LoopListeners.TURN, v));
    }

    private static void loop() {
        range("loop lane", 0, 1, LoopListeners.BAD_VALUE, v -> new LoopListeners().loop(v, 0, 1, 1, 1));
        for (int cells = 1; cells <= 3; cells++) {
            int many = cells;
            range("loop cell of " + cells, 0, 40 - cells, LoopListeners.BAD_VALUE, v -> new LoopListeners().loop(1, v, many, 1, 1));
        }
        for (int cell = 0; cell < 40; cell++) {
            int first = cell;
            range("loop cells at " + cell, 1, Math.min(3, 40 - cell), LoopListeners.BAD_VALUE, v -> new LoopListeners().loop(0, first, v, 1, 1));
        }
        range("loop upper", 1, 200, LoopListeners.BAD_VALUE, v -> new LoopListeners().loop(0, 0, 1, v, 1));
        range("loop upper above lower", 70, 200, LoopListeners.BAD_VALUE, v -> new LoopListeners().loop(0, 0, 1, v, 70));
        for (int upper : new int[] {1, 2, 100, 199, 200}) {
            range("loop lower below " + upper, 1, upper, LoopListeners.BAD_VALUE, v -> new LoopListeners().loop(0, 0, 1, upper, v));
        }
        range("loop both bounds", 1, 200, LoopListeners.BAD_VALUE, v -> new LoopListeners().loop(0, 0, 1, v, v));
    }

    private static LoopListeners withLoops(int many) {
        LoopListeners x = new LoopListeners();
        for (int i = 0; i < many; i++) {
            x.loop(i % 2, i, 1, 20, 10);
        }
        return x;
    }

    private static void bounds() {
        for (int many = 0; many <= 6; many++) {
            int loops = many;
            range("bounds of one of " + many, 0, many - 1, LoopListeners.NO_SUCH, v -> withLoops(loops).bounds(v, 1, 1));
        }
        range("bounds upper", 1, 200, LoopListeners.BAD_VALUE, v -> withLoops(1).bounds(0, v, 1));
        range("bounds upper above lower", 20, 200, LoopListeners.BAD_VALUE, v -> withLoops(1).bounds(0, v, 20));
        for (int upper : new int[] {1, 2, 100, 199, 200}) {
            range("bounds lower below " + upper, 1, upper, LoopListeners.BAD_VALUE, v -> withLoops(1).bounds(0, upper, v));
        }
        range("bounds, both", 1, 200, LoopListeners.BAD_VALUE, v -> withLoops(1).bounds(0, v, v));
    }

    private static void come() {
        range("come lane", 0, 1, LoopListeners.BAD_VALUE, v -> new LoopListeners().come(v, 1, 1, 1));
        range("come length", 1, 4, LoopListeners.BAD_VALUE, v -> new LoopListeners().come(0, v, 1, 1));
        range("come speed", 1, 4, LoopListeners.BAD_VALUE, v -> new LoopListeners().come(0, 1, v, 1));
        range("come metal", 1, 9, LoopListeners.BAD_VALUE, v -> new LoopListeners().come(0, 1, 1, v));
    }

    /** So many cars, of which each is on the road. */
    private static LoopListeners withCars(int many) {
        LoopListeners x = new LoopListeners();
        for (int i = 0; i < many; i++) {
            x.come(i % 2, 1, 1, 1);
            if (i % 2 == 1) {
                x.ticks(1);
            }
        }
        return x;
    }

    private static void cars() {
        for (int many : new int[] {0, 1, 2, 3, 39, 40}) {
            range("want of one of " + many, 0, many - 1, LoopListeners.NO_SUCH, v -> withCars(many).want(v));
            range("speed of one of " + many, 0, many - 1, LoopListeners.NO_SUCH, v -> withCars(many).speed(v, 1));
            range("ofCar of one of " + many, 0, many - 1, LoopListeners.NO_SUCH, v -> withCars(many).ofCar(v, 1));
            range("goneIn of one of " + many, 0, many - 1, LoopListeners.NO_SUCH, v -> withCars(many).goneIn(v));
        }
        range("speed", 0, 4, LoopListeners.BAD_VALUE, v -> withCars(1).speed(0, v));
        range("ofCar what", 0, 9, LoopListeners.BAD_VALUE, v -> withCars(1).ofCar(0, v));
    }

    private static void ticks() {
        range("ticks", 1, 100, LoopListeners.BAD_VALUE, v -> new LoopListeners().ticks(v));
        for (int ticks = 1; ticks <= 100; ticks++) {
            LoopListeners x = new LoopListeners();
            due.is("ticks(" + ticks + ")", x.ticks(ticks), ticks);
            due.is("ticks(" + ticks + ") again", x.ticks(ticks), 2 * ticks);
            due.is("tick", x.count(0), 2 * ticks);
        }
    }

    private static void whatThereIs() {
        for (int many = 0; many <= 6; many++) {
            int loops = many;
            range("ofLoop of one of " + many, 0, many - 1, LoopListeners.NO_SUCH, v -> withLoops(loops).ofLoop(v, 0));
            range("error of one of " + many, 0, many - 1, LoopListeners.NO_SUCH, v -> withLoops(loops).error(v));
        }
        range("ofLoop what", 0, 9, LoopListeners.BAD_VALUE, v -> withLoops(1).ofLoop(0, v));
        range("carAt lane", 0, 1, LoopListeners.NO_SUCH, v -> withCars(3).carAt(v, 0));
        for (int lane = 0; lane < 2; lane++) {
            int its = lane;
            range("carAt cell of lane " + lane, 0, 39, LoopListeners.NO_SUCH, v -> withCars(40).carAt(its, v));
            range("carAt cell of lane " + lane + ", no car", 0, 39, LoopListeners.NO_SUCH, v -> new LoopListeners().carAt(its, v));
        }
        range("count", 0, 11, LoopListeners.BAD_VALUE, v -> new LoopListeners().count(v));
    }

    private static void whatIf() {
        for (int many = 0; many <= 6; many++) {
            int loops = many;
            int last = many - 1;
            range("inside of one of " + many, 0, last, LoopListeners.NO_SUCH, v -> withLoops(loops).inside(v, last));
            range("inside, the other of " + many, 0, last, LoopListeners.NO_SUCH, v -> withLoops(loops).inside(last, v));
            range("countsIn of one of " + many, 0, last, LoopListeners.NO_SUCH, v -> withLoops(loops).countsIn(v, 1));
            range("countsAlone of one of " + many, 0, last, LoopListeners.NO_SUCH, v -> withLoops(loops).countsAlone(v, 1));
            range("bestUpper of one of " + many, 0, last, LoopListeners.NO_SUCH, v -> withLoops(loops).bestUpper(v, 1));
        }
        range("countsIn ticks", 1, 100, LoopListeners.BAD_VALUE, v -> withLoops(1).countsIn(0, v));
        range("countsAlone ticks", 1, 100, LoopListeners.BAD_VALUE, v -> withLoops(1).countsAlone(0, v));
        range("bestUpper ticks", 1, 100, LoopListeners.BAD_VALUE, v -> withLoops(1).bestUpper(0, v));
        range("bestTurn ticks", 1, 100, LoopListeners.BAD_VALUE, v -> withLoops(2).bestTurn(v));
        range("bestTurn ticks without loops", 1, 100, LoopListeners.BAD_VALUE, v -> new LoopListeners().bestTurn(v));
    }

    private static void slots() {
        range("save", 0, 1, LoopListeners.BAD_VALUE, v -> new LoopListeners().save(v));
        range("restore", 0, 1, LoopListeners.BAD_VALUE, v -> {
            LoopListeners x = new LoopListeners();
            x.save(0);
            x.save(1);
            return x.restore(v);
        });
    }
}
