import java.util.ArrayList;
import java.util.Comparator;
import java.util.HashSet;
import java.util.List;
import java.util.Set;
import java.util.regex.Pattern;

/**
 * The document once more, in the plainest form and without heed of speed or room: cells are sets, each state is a
 * copy, and what is asked ahead is tried out for each bound and each turn.
 */
final class PlainModel {
    static final int NO_SUCH = -1, BAD_VALUE = -2, BAD_TEXT = -3, TOO_MANY = -4, NOT_POSSIBLE = -5, NONE = -6;

    private static final class Car {
        int number, lane, front, length, speed, metal, changed, waited;
        boolean gone, wants;
        Set<Integer> wasOver = new HashSet<>();

        Car copy() {
            Car c = new Car();
            c.number = number;
            c.lane = lane;
            c.front = front;
            c.length = length;
            c.speed = speed;
            c.metal = metal;
            c.changed = changed;
            c.waited = waited;
            c.gone = gone;
            c.wants = wants;
            c.wasOver = new HashSet<>(wasOver);
            return c;
        }

        Set<Integer> cells() {
            Set<Integer> cells = new HashSet<>();
            for (int cell = front - length + 1; cell <= front && !gone; cell++) {
                if (cell >= 0 && cell <= 39) {
                    cells.add(cell);
                }
            }
            return cells;
        }
    }

    private static final class Loop {
        int number, lane, cell, cells, upper, lower, counted, passings, listened;
        boolean on;

        Loop copy() {
            Loop l = new Loop();
            l.number = number;
            l.lane = lane;
            l.cell = cell;
            l.cells = cells;
            l.upper = upper;
            l.lower = lower;
            l.counted = counted;
            l.passings = passings;
            l.listened = listened;
            l.on = on;
            return l;
        }

        Set<Integer> cellSet() {
            Set<Integer> set = new HashSet<>();
            for (int i = 0; i < cells; i++) {
                set.add(cell + i);
            }
            return set;
        }
    }

    private static final class State {
        List<Car> cars = new ArrayList<>();
        List<Loop> loops = new ArrayList<>();
        int tick, across = 1, turn = 1;

        State copy() {
            State s = new State();
            for (Car car : cars) {
                s.cars.add(car.copy());
            }
            for (Loop loop : loops) {
                s.loops.add(loop.copy());
            }
            s.tick = tick;
            s.across = across;
            s.turn = turn;
            return s;
        }

        Car carAt(int lane, int cell) {
            for (Car car : cars) {
                if (car.lane == lane && car.cells().contains(cell)) {
                    return car;
                }
            }
            return null;
        }

        static int shared(Car car, Loop loop) {
            Set<Integer> cells = car.cells();
            cells.retainAll(loop.cellSet());
            return cells.size();
        }

        Set<Integer> over(Car car) {
            Set<Integer> set = new HashSet<>();
            for (Loop loop : loops) {
                if (loop.lane == car.lane && shared(car, loop) > 0) {
                    set.add(loop.number);
                }
            }
            return set;
        }

        int strength(Loop loop) {
            int on = 0;
            int beside = 0;
            for (Car car : cars) {
                if (car.lane == loop.lane) {
                    on += car.metal * shared(car, loop);
                } else {
                    beside += car.metal * shared(car, loop);
                }
            }
            return 4 * on + across * beside;
        }

        void move(Car car) {
            if (car.wants) {
                boolean free = true;
                for (int cell : car.cells()) {
                    free &= carAt(1 - car.lane, cell) == null;
                }
                if (free) {
                    car.lane = 1 - car.lane;
                    car.wants = false;
                    car.changed++;
                    return;
                }
            }
            int target = car.front + car.speed;
            while (car.front < target && !car.gone && (car.front + 1 > 39 || carAt(car.lane, car.front + 1) == null)) {
                car.front++;
                car.gone = car.front - car.length + 1 > 39;
            }
            if (car.front < target && !car.gone) {
                car.waited++;
            }
        }

        int listener() {
            return loops.isEmpty() ? NONE : (tick / turn) % loops.size();
        }

        void tick(int listener) {
            List<Car> order = new ArrayList<>(cars);
            order.removeIf(car -> car.gone);
            order.sort(Comparator.comparingInt((Car car) -> -car.front).thenComparingInt(car -> car.number));
            for (Car car : order) {
                move(car);
            }
            for (Car car : cars) {
                Set<Integer> over = over(car);
                for (int loop : over) {
                    if (!car.wasOver.contains(loop)) {
                        loops.get(loop).passings++;
                    }
                }
                car.wasOver = over;
            }
            if (listener >= 0) {
                Loop loop = loops.get(listener);
                int strength = strength(loop);
                loop.listened++;
                if (loop.on) {
                    loop.on = strength >= loop.lower;
                } else if (strength >= loop.upper) {
                    loop.on = true;
                    loop.counted++;
                }
            }
            tick++;
        }

        void ticks(int ticks) {
            for (int i = 0; i < ticks; i++) {
                tick(listener());
            }
        }
    }

    private State state = new State();
    private final List<State> history = new ArrayList<>();
    private final State[] slots = new State[2];
    private String pad = "";
    private boolean inText;

    private static boolean in(int value, int least, int most) {
        return least <= value && value <= most;
    }

    private void record() {
        if (inText) {
            return;
        }
        history.add(state.copy());
        if (history.size() > 6) {
            history.remove(0);
        }
    }

    int set(int setting, int value) {
        if (setting == 0 && in(value, 0, 8)) {
            record();
            int before = state.across;
            state.across = value;
            return before;
        }
        if (setting == 1 && in(value, 1, 5)) {
            record();
            int before = state.turn;
            state.turn = value;
            return before;
        }
        return BAD_VALUE;
    }

    int loop(int lane, int cell, int cells, int upper, int lower) {
        if (!in(lane, 0, 1) || !in(cell, 0, 39) || !in(cells, 1, 3) || cell + cells - 1 > 39 || !in(upper, 1, 200) || !in(lower, 1, upper)) {
            return BAD_VALUE;
        }
        if (state.loops.size() == 6) {
            return TOO_MANY;
        }
        record();
        Loop loop = new Loop();
        loop.number = state.loops.size();
        loop.lane = lane;
        loop.cell = cell;
        loop.cells = cells;
        loop.upper = upper;
        loop.lower = lower;
        state.loops.add(loop);
        for (Car car : state.cars) {
            if (state.over(car).contains(loop.number)) {
                car.wasOver.add(loop.number);
            }
        }
        return loop.number;
    }

    int bounds(int loop, int upper, int lower) {
        if (!in(loop, 0, state.loops.size() - 1)) {
            return NO_SUCH;
        }
        if (!in(upper, 1, 200) || !in(lower, 1, upper)) {
            return BAD_VALUE;
        }
        record();
        int before = state.loops.get(loop).upper;
        state.loops.get(loop).upper = upper;
        state.loops.get(loop).lower = lower;
        return before;
    }

    int come(int lane, int length, int speed, int metal) {
        if (!in(lane, 0, 1) || !in(length, 1, 4) || !in(speed, 1, 4) || !in(metal, 1, 9)) {
            return BAD_VALUE;
        }
        if (state.cars.size() == 40) {
            return TOO_MANY;
        }
        if (state.carAt(lane, 0) != null) {
            return NOT_POSSIBLE;
        }
        record();
        Car car = new Car();
        car.number = state.cars.size();
        car.lane = lane;
        car.length = length;
        car.speed = speed;
        car.metal = metal;
        state.cars.add(car);
        return car.number;
    }

    int want(int car) {
        if (!in(car, 0, state.cars.size() - 1)) {
            return NO_SUCH;
        }
        if (state.cars.get(car).gone) {
            return NOT_POSSIBLE;
        }
        record();
        state.cars.get(car).wants ^= true;
        return state.cars.get(car).wants ? 1 : 0;
    }

    int speed(int car, int speed) {
        if (!in(car, 0, state.cars.size() - 1)) {
            return NO_SUCH;
        }
        if (!in(speed, 0, 4)) {
            return BAD_VALUE;
        }
        if (state.cars.get(car).gone) {
            return NOT_POSSIBLE;
        }
        record();
        int before = state.cars.get(car).speed;
        state.cars.get(car).speed = speed;
        return before;
    }

    int ticks(int ticks) {
        if (!in(ticks, 1, 100)) {
            return BAD_VALUE;
        }
        record();
        state.ticks(ticks);
        return state.tick;
    }

    int ofCar(int number, int what) {
        if (!in(number, 0, state.cars.size() - 1)) {
            return NO_SUCH;
        }
        if (!in(what, 0, 9)) {
            return BAD_VALUE;
        }
        Car car = state.cars.get(number);
        int set = 0;
        for (int loop : state.over(car)) {
            set += 1 << loop;
        }
        return new int[] {car.lane, car.front, car.length, car.speed, car.metal, car.gone ? 1 : 0, car.wants ? 1 : 0,
            car.changed, car.waited, set}[what];
    }

    int ofLoop(int number, int what) {
        if (!in(number, 0, state.loops.size() - 1)) {
            return NO_SUCH;
        }
        if (!in(what, 0, 9)) {
            return BAD_VALUE;
        }
        Loop loop = state.loops.get(number);
        return new int[] {loop.lane, loop.cell, loop.cells, loop.upper, loop.lower, loop.on ? 1 : 0, loop.counted,
            loop.passings, state.strength(loop), loop.listened}[what];
    }

    int error(int loop) {
        return in(loop, 0, state.loops.size() - 1) ? 1000 + state.loops.get(loop).counted - state.loops.get(loop).passings : NO_SUCH;
    }

    int carAt(int lane, int cell) {
        if (!in(lane, 0, 1) || !in(cell, 0, 39)) {
            return NO_SUCH;
        }
        Car car = state.carAt(lane, cell);
        return car == null ? NONE : car.number;
    }

    int count(int what) {
        if (!in(what, 0, 11)) {
            return BAD_VALUE;
        }
        int gone = (int) state.cars.stream().filter(car -> car.gone).count();
        return new int[] {state.tick, state.loops.size(), state.cars.size(), state.cars.size() - gone, gone, state.listener(),
            state.loops.stream().mapToInt(loop -> loop.counted).sum(), state.loops.stream().mapToInt(loop -> loop.passings).sum(),
            pad.length(), history.size(), state.across, state.turn}[what];
    }

    int inside(int loop, int other) {
        if (!in(loop, 0, state.loops.size() - 1) || !in(other, 0, state.loops.size() - 1)) {
            return NO_SUCH;
        }
        return 1000 + state.loops.get(loop).counted - state.loops.get(other).counted;
    }

    int countsIn(int loop, int ticks) {
        if (!in(loop, 0, state.loops.size() - 1)) {
            return NO_SUCH;
        }
        if (!in(ticks, 1, 100)) {
            return BAD_VALUE;
        }
        State then = state.copy();
        then.ticks(ticks);
        return then.loops.get(loop).counted;
    }

    int countsAlone(int loop, int ticks) {
        if (!in(loop, 0, state.loops.size() - 1)) {
            return NO_SUCH;
        }
        if (!in(ticks, 1, 100)) {
            return BAD_VALUE;
        }
        State then = state.copy();
        for (int i = 0; i < ticks; i++) {
            then.tick(loop);
        }
        return then.loops.get(loop).counted;
    }

    int bestUpper(int loop, int ticks) {
        if (!in(loop, 0, state.loops.size() - 1)) {
            return NO_SUCH;
        }
        if (!in(ticks, 1, 100)) {
            return BAD_VALUE;
        }
        int best = 0;
        int least = 1000000;
        for (int upper = state.loops.get(loop).lower; upper <= 200; upper++) {
            State then = state.copy();
            then.loops.get(loop).upper = upper;
            then.ticks(ticks);
            int error = Math.abs(then.loops.get(loop).counted - then.loops.get(loop).passings);
            if (error < least) {
                least = error;
                best = upper;
            }
        }
        return best;
    }

    int bestTurn(int ticks) {
        if (!in(ticks, 1, 100)) {
            return BAD_VALUE;
        }
        int best = 0;
        int least = 1000000;
        for (int turn = 1; turn <= 5; turn++) {
            State then = state.copy();
            then.turn = turn;
            then.ticks(ticks);
            int errors = then.loops.stream().mapToInt(loop -> Math.abs(loop.counted - loop.passings)).sum();
            if (errors < least) {
                least = errors;
                best = turn;
            }
        }
        return best;
    }

    int goneIn(int car) {
        if (!in(car, 0, state.cars.size() - 1)) {
            return NO_SUCH;
        }
        State then = state.copy();
        for (int ticks = 0; ticks <= 200; ticks++) {
            if (then.cars.get(car).gone) {
                return ticks;
            }
            then.tick(then.listener());
        }
        return NONE;
    }

    int put(long characters) {
        String text = "";
        boolean ended = false;
        for (int i = 0; i < 8; i++) {
            int code = (int) (characters >> 8 * i) & 255;
            if (code == 0) {
                ended = true;
            } else if (ended || !in(code, 33, 126)) {
                return BAD_VALUE;
            } else {
                text = (char) code + text;
            }
        }
        if (text.isEmpty()) {
            return BAD_VALUE;
        }
        if (pad.length() + text.length() > 60) {
            return TOO_MANY;
        }
        pad += text;
        return pad.length();
    }

    int wipe() {
        int length = pad.length();
        pad = "";
        return length;
    }

    private static final String ORDER = "(c[01][1-4][1-4][1-9]|[wt](0|[1-9][0-9]?))";
    private static final String START = "(|[cwt]|c[01]|c[01][1-4]|c[01][1-4][1-4])";
    private static final Pattern WHOLE = Pattern.compile(ORDER + "(;" + ORDER + ")*");
    private static final Pattern PREFIX = Pattern.compile("(" + ORDER + ";)*(" + START + "|" + ORDER + ")");

    int fault() {
        if (WHOLE.matcher(pad).matches()) {
            return NONE;
        }
        for (int i = 0; i < pad.length(); i++) {
            if (!PREFIX.matcher(pad.substring(0, i + 1)).matches()) {
                return i;
            }
        }
        return pad.length();
    }

    int carryOut() {
        if (fault() != NONE) {
            return BAD_TEXT;
        }
        record();
        inText = true;
        int done = 0;
        for (String order : pad.split(";")) {
            int answer;
            if (order.charAt(0) == 'c') {
                answer = come(order.charAt(1) - '0', order.charAt(2) - '0', order.charAt(3) - '0', order.charAt(4) - '0');
            } else if (order.charAt(0) == 'w') {
                answer = want(Integer.parseInt(order.substring(1)));
            } else {
                answer = ticks(Integer.parseInt(order.substring(1)));
            }
            if (answer < 0) {
                break;
            }
            done++;
        }
        inText = false;
        pad = "";
        return done;
    }

    int undo() {
        if (history.isEmpty()) {
            return NOT_POSSIBLE;
        }
        state = history.remove(history.size() - 1);
        return history.size();
    }

    int save(int slot) {
        if (!in(slot, 0, 1)) {
            return BAD_VALUE;
        }
        slots[slot] = state.copy();
        return state.tick;
    }

    int restore(int slot) {
        if (!in(slot, 0, 1)) {
            return BAD_VALUE;
        }
        if (slots[slot] == null) {
            return NOT_POSSIBLE;
        }
        record();
        state = slots[slot].copy();
        return state.tick;
    }
}
