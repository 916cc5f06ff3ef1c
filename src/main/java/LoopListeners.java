/**
 * Loops in a road that share one wire and take turns listening to the cars in two lanes.
 *
 * <p>Every row and every state is made once, by the constructors; a call only writes into what
 * stands there already, so that a long run of calls needs no more room than a short one.
 */
public final class LoopListeners {
    public static final int NO_SUCH = -1, BAD_VALUE = -2, BAD_TEXT = -3, TOO_MANY = -4, NOT_POSSIBLE = -5, NONE = -6;
    public static final int ACROSS = 0, TURN = 1;

    private static final int LANES = 2, CELLS = 40, LAST_CELL = CELLS - 1;
    private static final int MOST_CARS = 40, MOST_LENGTH = 4, MOST_SPEED = 4, MOST_METAL = 9;
    private static final int MOST_LOOPS = 6, MOST_LOOP_CELLS = 3, MOST_BOUND = 200;
    private static final int MOST_ACROSS = 8, MOST_TURN = 5;
    private static final int MOST_TICKS = 100, MOST_TICKS_AHEAD = 200;
    private static final int MOST_STATES = 6, SLOTS = 2;
    private static final int PAD_SIGNS = 60, SIGNS_AT_ONCE = 8, FIRST_SIGN = 33, LAST_SIGN = 126;

    /** A difference is answered with this added, so that it can't be taken for an error code. */
    private static final int MIDDLE = 1000;

    /** More than all errors together can be, so that the first one that is tried out is less. */
    private static final int ABOVE_ALL_ERRORS = 1000000;

    private final Road now = new Road();
    private final Road trial = new Road();
    private final Loop trialLoop = new Loop();
    private final int[] heard = new int[MOST_TICKS];
    private final Pad pad = new Pad();
    private final History history = new History();
    private final Slots slots = new Slots();

    public LoopListeners() {
    }

    // ---- setting up

    public int set(int setting, int value) {
        history.note(now);
        return recorded(now.changeSetting(setting, value));
    }

    public int loop(int lane, int cell, int cells, int upper, int lower) {
        history.note(now);
        return recorded(now.layLoop(lane, cell, cells, upper, lower));
    }

    public int bounds(int loop, int upper, int lower) {
        history.note(now);
        return recorded(now.changeBounds(loop, upper, lower));
    }

    // ---- cars

    public int come(int lane, int length, int speed, int metal) {
        history.note(now);
        return recorded(now.admitCar(lane, length, speed, metal));
    }

    public int want(int car) {
        history.note(now);
        return recorded(now.turnWish(car));
    }

    public int speed(int car, int speed) {
        history.note(now);
        return recorded(now.changeSpeed(car, speed));
    }

    public int ticks(int ticks) {
        history.note(now);
        return recorded(now.letPass(ticks));
    }

    /** What a change answers is an error just if it is below 0; then its noted state is not kept. */
    private int recorded(int answer) {
        if (answer >= 0) {
            history.keep();
        }
        return answer;
    }

    // ---- what there is

    public int ofCar(int car, int what) {
        Car asked = now.carNumbered(car);
        if (asked == null) {
            return NO_SUCH;
        }
        return what == 9 ? now.loopsUnder(asked) : asked.about(what);
    }

    public int ofLoop(int loop, int what) {
        Loop asked = now.loopNumbered(loop);
        if (asked == null) {
            return NO_SUCH;
        }
        return what == 8 ? now.strengthOf(asked) : asked.about(what);
    }

    public int error(int loop) {
        Loop asked = now.loopNumbered(loop);
        return asked == null ? NO_SUCH : MIDDLE + asked.falselyCounted();
    }

    public int carAt(int lane, int cell) {
        if (!isWithin(lane, 0, LANES - 1) || !isWithin(cell, 0, LAST_CELL)) {
            return NO_SUCH;
        }
        return now.takerOf(lane, cell);
    }

    public int count(int what) {
        switch (what) {
            case 0: return now.tick;
            case 1: return now.loopsLaid;
            case 2: return now.carsCame;
            case 3: return now.carsCame - now.carsGone();
            case 4: return now.carsGone();
            case 5: return now.listener();
            case 6: return now.sumOfLoops(6);
            case 7: return now.sumOfLoops(7);
            case 8: return pad.length;
            case 9: return history.kept;
            case 10: return now.across;
            case 11: return now.turn;
            default: return BAD_VALUE;
        }
    }

    // ---- what if; nothing changes

    public int inside(int loop, int other) {
        Loop one = now.loopNumbered(loop);
        Loop two = now.loopNumbered(other);
        return one == null || two == null ? NO_SUCH : MIDDLE + one.counted - two.counted;
    }

    public int countsIn(int loop, int ticks) {
        trial.become(now);
        Loop tried = trial.loopNumbered(loop);
        if (tried == null) {
            return NO_SUCH;
        }
        if (!isTicks(ticks)) {
            return BAD_VALUE;
        }
        trial.letPass(ticks);
        return tried.counted;
    }

    public int countsAlone(int loop, int ticks) {
        trial.become(now);
        Loop tried = trial.loopNumbered(loop);
        if (tried == null) {
            return NO_SUCH;
        }
        if (!isTicks(ticks)) {
            return BAD_VALUE;
        }
        for (int i = 0; i < ticks; i++) {
            trial.passTick(loop);
        }
        return tried.counted;
    }

    public int bestUpper(int loop, int ticks) {
        trial.become(now);
        Loop asked = now.loopNumbered(loop);
        Loop tried = trial.loopNumbered(loop);
        if (asked == null || tried == null) {
            return NO_SUCH;
        }
        if (!isTicks(ticks)) {
            return BAD_VALUE;
        }
        int times = hearTrial(loop, tried, ticks);
        int best = asked.lower;
        int least = ABOVE_ALL_ERRORS;
        for (int upper = asked.lower; upper <= MOST_BOUND; upper++) {
            int amount = Math.abs(countedWith(asked, upper, times) - tried.passings);
            if (amount < least) {
                least = amount;
                best = upper;
            }
        }
        return best;
    }

    /**
     * Lets ticks pass on the trial road, writes down what the loop hears in them, and returns how
     * often it heard: the cars heed no bounds, so that all bounds can be tried on one passage.
     */
    private int hearTrial(int loop, Loop tried, int ticks) {
        int times = 0;
        for (int i = 0; i < ticks; i++) {
            int listener = trial.listener();
            trial.passTick(listener);
            if (listener == loop && times < heard.length) {
                heard[times] = trial.strengthOf(tried);
                times++;
            }
        }
        return times;
    }

    private int countedWith(Loop loop, int upper, int times) {
        trialLoop.become(loop);
        trialLoop.upper = upper;
        for (int i = 0; i < times && i < heard.length; i++) {
            trialLoop.hear(heard[i]);
        }
        return trialLoop.counted;
    }

    public int bestTurn(int ticks) {
        if (!isTicks(ticks)) {
            return BAD_VALUE;
        }
        int best = 1;
        int least = ABOVE_ALL_ERRORS;
        for (int turn = 1; turn <= MOST_TURN; turn++) {
            trial.become(now);
            trial.turn = turn;
            trial.letPass(ticks);
            int amounts = trial.allAmounts();
            if (amounts < least) {
                least = amounts;
                best = turn;
            }
        }
        return best;
    }

    public int goneIn(int car) {
        trial.become(now);
        Car tried = trial.carNumbered(car);
        if (tried == null) {
            return NO_SUCH;
        }
        for (int passed = 0; passed < MOST_TICKS_AHEAD && !tried.gone; passed++) {
            trial.passTick(NONE);
        }
        return tried.gone ? trial.tick - now.tick : NONE;
    }

    // ---- texts

    public int put(long characters) {
        return pad.append(characters);
    }

    public int wipe() {
        return pad.empty();
    }

    public int fault() {
        return pad.firstFault();
    }

    public int carryOut() {
        if (pad.firstFault() != NONE) {
            return BAD_TEXT;
        }
        history.note(now);
        int done = 0;
        for (int at = 0; at < pad.length; at++) {
            if (!pad.beginsOrder(at)) {
                continue;
            }
            if (obey(at) < 0) {
                break;
            }
            done++;
        }
        pad.empty();
        return recorded(done);
    }

    /** Carries out the order that begins at a place of the pad, which has no fault. */
    private int obey(int at) {
        switch (pad.signAt(at)) {
            case 'c':
                return now.admitCar(pad.digitAt(at + 1), pad.digitAt(at + 2), pad.digitAt(at + 3), pad.digitAt(at + 4));
            case 'w':
                return now.turnWish(pad.numberAt(at + 1));
            case 't':
                return now.letPass(pad.numberAt(at + 1));
            default:
                return BAD_TEXT;
        }
    }

    // ---- undo, saving

    public int undo() {
        return history.stepBack(now);
    }

    public int save(int slot) {
        return slots.keep(slot, now);
    }

    public int restore(int slot) {
        history.note(now);
        return recorded(slots.giveBack(slot, now));
    }

    private static boolean isWithin(int value, int least, int most) {
        return value >= least && value <= most;
    }

    private static boolean isTicks(int ticks) {
        return isWithin(ticks, 1, MOST_TICKS);
    }

    private static boolean areBounds(int upper, int lower) {
        return isWithin(upper, 1, MOST_BOUND) && isWithin(lower, 1, upper);
    }

    /** A car; its cells below 0 and beyond 39 are counted in its length, but there are no such cells. */
    private static final class Car {
        final int number;
        int lane, front, length, speed, metal;
        boolean gone, wants;
        int changes, waits;
        /** The loops that it was over after the last tick, or when they were laid, as a set. */
        int wasOver;

        Car(int number) {
            this.number = number;
        }

        void arrive(int itsLane, int itsLength, int itsSpeed, int itsMetal) {
            lane = itsLane;
            front = 0;
            length = itsLength;
            speed = itsSpeed;
            metal = itsMetal;
            gone = false;
            wants = false;
            changes = 0;
            waits = 0;
            wasOver = 0;
        }

        void become(Car other) {
            lane = other.lane;
            front = other.front;
            length = other.length;
            speed = other.speed;
            metal = other.metal;
            gone = other.gone;
            wants = other.wants;
            changes = other.changes;
            waits = other.waits;
            wasOver = other.wasOver;
        }

        int last() {
            return front - length + 1;
        }

        int about(int what) {
            switch (what) {
                case 0: return lane;
                case 1: return front;
                case 2: return length;
                case 3: return speed;
                case 4: return metal;
                case 5: return gone ? 1 : 0;
                case 6: return wants ? 1 : 0;
                case 7: return changes;
                case 8: return waits;
                default: return BAD_VALUE;
            }
        }
    }

    private static final class Loop {
        int lane, first, cells, upper, lower;
        boolean on;
        int counted, passings, listened;

        void lay(int itsLane, int itsFirst, int itsCells, int itsUpper, int itsLower) {
            lane = itsLane;
            first = itsFirst;
            cells = itsCells;
            upper = itsUpper;
            lower = itsLower;
            on = false;
            counted = 0;
            passings = 0;
            listened = 0;
        }

        void become(Loop other) {
            lane = other.lane;
            first = other.first;
            cells = other.cells;
            upper = other.upper;
            lower = other.lower;
            on = other.on;
            counted = other.counted;
            passings = other.passings;
            listened = other.listened;
        }

        boolean isUnder(Car car) {
            int carLast = car.front - car.length + 1;
            return lane == car.lane && first <= car.front && carLast < first + cells;
        }

        void hear(int strength) {
            listened++;
            if (!on && strength >= upper) {
                on = true;
                counted++;
            } else if (on && strength < lower) {
                on = false;
            }
        }

        int falselyCounted() {
            return counted - passings;
        }

        int about(int what) {
            switch (what) {
                case 0: return lane;
                case 1: return first;
                case 2: return cells;
                case 3: return upper;
                case 4: return lower;
                case 5: return on ? 1 : 0;
                case 6: return counted;
                case 7: return passings;
                case 9: return listened;
                default: return BAD_VALUE;
            }
        }
    }

    /** All that undo and the slots bring back: the cars, the loops, the settings and the tick. */
    private static final class Road {
        final Car[] cars = new Car[MOST_CARS];
        final Loop[] loops = new Loop[MOST_LOOPS];
        /** Which car takes each cell, NONE where none does; the cells of lane 1 stand after those of lane 0. */
        final int[] takers = new int[LANES * CELLS];
        /** The cars of a tick in the order in which they move; nothing of it is kept for the next tick. */
        final Car[] movers = new Car[MOST_CARS];
        int carsCame, loopsLaid, tick;
        int across = 1, turn = 1;

        Road() {
            for (int i = 0; i < cars.length; i++) {
                cars[i] = new Car(i);
            }
            for (int i = 0; i < loops.length; i++) {
                loops[i] = new Loop();
            }
            for (int i = 0; i < takers.length; i++) {
                takers[i] = NONE;
            }
        }

        void become(Road other) {
            tick = other.tick;
            across = other.across;
            turn = other.turn;
            carsCame = other.carsCame;
            loopsLaid = other.loopsLaid;
            for (int i = 0; i < carsCame; i++) {
                Car mine = carNumbered(i);
                Car its = other.carNumbered(i);
                if (mine != null && its != null) {
                    mine.become(its);
                }
            }
            for (int i = 0; i < loopsLaid; i++) {
                Loop mine = loopNumbered(i);
                Loop its = other.loopNumbered(i);
                if (mine != null && its != null) {
                    mine.become(its);
                }
            }
            for (int i = 0; i < takers.length && i < other.takers.length; i++) {
                takers[i] = other.takers[i];
            }
        }

        /** The car of this number, null if there is none. */
        Car carNumbered(int number) {
            return number >= 0 && number < carsCame && number < cars.length ? cars[number] : null;
        }

        /** The loop of this number, null if there is none. */
        Loop loopNumbered(int number) {
            return number >= 0 && number < loopsLaid && number < loops.length ? loops[number] : null;
        }

        int changeSetting(int setting, int value) {
            if (setting == ACROSS && isWithin(value, 0, MOST_ACROSS)) {
                int previous = across;
                across = value;
                return previous;
            }
            if (setting == TURN && isWithin(value, 1, MOST_TURN)) {
                int previous = turn;
                turn = value;
                return previous;
            }
            return BAD_VALUE;
        }

        int layLoop(int lane, int cell, int cells, int upper, int lower) {
            if (!isWithin(lane, 0, LANES - 1) || !isWithin(cells, 1, MOST_LOOP_CELLS)
                    || !isWithin(cell, 0, CELLS - cells) || !areBounds(upper, lower)) {
                return BAD_VALUE;
            }
            if (loopsLaid >= loops.length) {
                return TOO_MANY;
            }
            int number = loopsLaid;
            loopsLaid++;
            Loop loop = loopNumbered(number);
            if (loop != null) {
                loop.lay(lane, cell, cells, upper, lower);
                markCarsOver(loop, number);
            }
            return number;
        }

        private void markCarsOver(Loop loop, int number) {
            for (int i = 0; i < carsCame; i++) {
                Car car = carNumbered(i);
                if (car != null && loop.isUnder(car)) {
                    car.wasOver |= 1 << number;
                }
            }
        }

        int changeBounds(int number, int upper, int lower) {
            Loop loop = loopNumbered(number);
            if (loop == null) {
                return NO_SUCH;
            }
            if (!areBounds(upper, lower)) {
                return BAD_VALUE;
            }
            int previous = loop.upper;
            loop.upper = upper;
            loop.lower = lower;
            return previous;
        }

        int admitCar(int lane, int length, int speed, int metal) {
            if (!isWithin(lane, 0, LANES - 1) || !isWithin(length, 1, MOST_LENGTH)
                    || !isWithin(speed, 1, MOST_SPEED) || !isWithin(metal, 1, MOST_METAL)) {
                return BAD_VALUE;
            }
            if (carsCame >= cars.length) {
                return TOO_MANY;
            }
            if (takerOf(lane, 0) != NONE) {
                return NOT_POSSIBLE;
            }
            int number = carsCame;
            carsCame++;
            Car car = carNumbered(number);
            if (car != null) {
                car.arrive(lane, length, speed, metal);
                take(lane, 0, number);
            }
            return number;
        }

        int turnWish(int number) {
            Car car = carNumbered(number);
            if (car == null) {
                return NO_SUCH;
            }
            if (car.gone) {
                return NOT_POSSIBLE;
            }
            car.wants = !car.wants;
            return car.wants ? 1 : 0;
        }

        int changeSpeed(int number, int speed) {
            Car car = carNumbered(number);
            if (car == null) {
                return NO_SUCH;
            }
            if (!isWithin(speed, 0, MOST_SPEED)) {
                return BAD_VALUE;
            }
            if (car.gone) {
                return NOT_POSSIBLE;
            }
            int previous = car.speed;
            car.speed = speed;
            return previous;
        }

        int letPass(int ticks) {
            if (!isTicks(ticks)) {
                return BAD_VALUE;
            }
            for (int i = 0; i < ticks; i++) {
                passTick(listener());
            }
            return tick;
        }

        /** The loop whose turn the next tick is, NONE if there are no loops. */
        int listener() {
            return loopsLaid > 0 && turn > 0 ? tick / turn % loopsLaid : NONE;
        }

        /** One tick in which the loop of this number listens, or none if there is none of this number. */
        void passTick(int listener) {
            int many = orderMovers();
            for (int i = 0; i < many && i < movers.length; i++) {
                Car car = movers[i];
                if (car != null) {
                    moveCar(car);
                }
            }
            notePassings();
            Loop loop = loopNumbered(listener);
            if (loop != null) {
                loop.hear(strengthOf(loop));
            }
            tick++;
        }

        /** Puts the cars on the road into their order of moving and returns how many they are. */
        private int orderMovers() {
            int many = 0;
            for (int i = 0; i < carsCame; i++) {
                Car car = carNumbered(i);
                if (car != null && !car.gone && many < movers.length) {
                    insertMover(car, many);
                    many++;
                }
            }
            return many;
        }

        /** A car of the same front keeps its place ahead of this one, as its number is lower. */
        private void insertMover(Car car, int many) {
            int at = many;
            for (int i = many - 1; i >= 0 && i + 1 < movers.length; i--) {
                Car ahead = movers[i];
                if (ahead == null || ahead.front >= car.front) {
                    break;
                }
                movers[i + 1] = ahead;
                at = i;
            }
            if (at >= 0 && at < movers.length) {
                movers[at] = car;
            }
        }

        private void moveCar(Car car) {
            if (car.wants && isFreeBeside(car)) {
                changeLane(car);
                return;
            }
            int moved = 0;
            while (moved < car.speed && !car.gone && takerOf(car.lane, car.front + 1) == NONE) {
                car.front++;
                take(car.lane, car.front, car.number);
                take(car.lane, car.last() - 1, NONE);
                car.gone = car.last() > LAST_CELL;
                moved++;
            }
            if (moved < car.speed && !car.gone) {
                car.waits++;
            }
        }

        private boolean isFreeBeside(Car car) {
            for (int cell = car.last(); cell <= car.front; cell++) {
                if (takerOf(1 - car.lane, cell) != NONE) {
                    return false;
                }
            }
            return true;
        }

        private void changeLane(Car car) {
            for (int cell = car.last(); cell <= car.front; cell++) {
                take(car.lane, cell, NONE);
                take(1 - car.lane, cell, car.number);
            }
            car.lane = 1 - car.lane;
            car.wants = false;
            car.changes++;
        }

        private void notePassings() {
            for (int i = 0; i < carsCame; i++) {
                Car car = carNumbered(i);
                if (car != null && !(car.gone && car.wasOver == 0)) {
                    int over = loopsUnder(car);
                    countPassings(over & ~car.wasOver);
                    car.wasOver = over;
                }
            }
        }

        private void countPassings(int set) {
            for (int i = 0; i < loopsLaid; i++) {
                Loop loop = loopNumbered(i);
                if (loop != null && (set >> i & 1) == 1) {
                    loop.passings++;
                }
            }
        }

        /** The loops that a car is over, as a set: 1 for the loop 0, 2 for the loop 1, 4 for the loop 2 and so on. */
        int loopsUnder(Car car) {
            int set = 0;
            for (int i = 0; i < loopsLaid; i++) {
                Loop loop = loopNumbered(i);
                if (loop != null && loop.isUnder(car)) {
                    set |= 1 << i;
                }
            }
            return set;
        }

        int strengthOf(Loop loop) {
            return 4 * metalIn(loop.lane, loop) + across * metalIn(1 - loop.lane, loop);
        }

        /** The metal in the cells of a lane that have the numbers of a loop's cells, counted cell by cell. */
        private int metalIn(int lane, Loop loop) {
            int metal = 0;
            for (int i = 0; i < loop.cells; i++) {
                Car car = carNumbered(takerOf(lane, loop.first + i));
                if (car != null) {
                    metal += car.metal;
                }
            }
            return metal;
        }

        /** The car that takes a cell; NONE if it is free, as all are that do not exist. */
        int takerOf(int lane, int cell) {
            int at = lane * CELLS + cell;
            return cell >= 0 && cell < CELLS && at >= 0 && at < takers.length ? takers[at] : NONE;
        }

        private void take(int lane, int cell, int taker) {
            int at = lane * CELLS + cell;
            if (cell >= 0 && cell < CELLS && at >= 0 && at < takers.length) {
                takers[at] = taker;
            }
        }

        int carsGone() {
            int gone = 0;
            for (int i = 0; i < carsCame; i++) {
                Car car = carNumbered(i);
                if (car != null && car.gone) {
                    gone++;
                }
            }
            return gone;
        }

        /** The sum of a number, as ofLoop() names it, over all loops. */
        int sumOfLoops(int what) {
            int sum = 0;
            for (int i = 0; i < loopsLaid; i++) {
                Loop loop = loopNumbered(i);
                sum += loop == null ? 0 : loop.about(what);
            }
            return sum;
        }

        /** The errors of all loops together, each as an amount. */
        int allAmounts() {
            int sum = 0;
            for (int i = 0; i < loopsLaid; i++) {
                Loop loop = loopNumbered(i);
                sum += loop == null ? 0 : Math.abs(loop.falselyCounted());
            }
            return sum;
        }
    }

    /** The text of orders, and the reading of it. */
    private static final class Pad {
        /** What may stand next: a new order, each digit of a car, a number's first or second digit, or an order's end. */
        private static final int ORDER = 0, LANE = 1, LENGTH = 2, SPEED = 3, METAL = 4, NUMBER = 5, SECOND = 6, END = 7;
        private static final int WRONG = -1;

        final char[] signs = new char[PAD_SIGNS];
        int length;

        int append(long characters) {
            int many = signsIn(characters);
            if (many == 0) {
                return BAD_VALUE;
            }
            if (length + many > signs.length) {
                return TOO_MANY;
            }
            for (int i = many - 1; i >= 0; i--) {
                if (length >= 0 && length < signs.length) {
                    signs[length] = (char) (characters >>> 8 * i & 255);
                    length++;
                }
            }
            return length;
        }

        /** How many characters a number holds, 0 if it does not hold characters as it should. */
        private static int signsIn(long characters) {
            long rest = characters;
            int many = 0;
            while (many < SIGNS_AT_ONCE && (rest & 255) != 0) {
                if (!isWithin((int) (rest & 255), FIRST_SIGN, LAST_SIGN)) {
                    return 0;
                }
                rest >>>= 8;
                many++;
            }
            return rest == 0 ? many : 0;
        }

        int empty() {
            int previous = length;
            length = 0;
            return previous;
        }

        /** The sign at a place, 0 if there is none. */
        int signAt(int at) {
            return at >= 0 && at < length && at < signs.length ? signs[at] : 0;
        }

        int digitAt(int at) {
            return signAt(at) - '0';
        }

        /** The number of one or two digits that begins at a place. */
        int numberAt(int at) {
            int second = digitAt(at + 1);
            return isWithin(second, 0, 9) ? digitAt(at) * 10 + second : digitAt(at);
        }

        boolean beginsOrder(int at) {
            return at == 0 || signAt(at - 1) == ';';
        }

        int firstFault() {
            int due = ORDER;
            for (int at = 0; at < length; at++) {
                due = dueAfter(due, signAt(at));
                if (due == WRONG) {
                    return at;
                }
            }
            return due == END || due == SECOND ? NONE : length;
        }

        /** What may stand next when a sign stands where this was due, WRONG if the sign can't stand there. */
        private static int dueAfter(int due, int sign) {
            switch (due) {
                case ORDER: return sign == 'c' ? LANE : sign == 'w' || sign == 't' ? NUMBER : WRONG;
                case LANE: return isWithin(sign, '0', '1') ? LENGTH : WRONG;
                case LENGTH: return isWithin(sign, '1', '4') ? SPEED : WRONG;
                case SPEED: return isWithin(sign, '1', '4') ? METAL : WRONG;
                case METAL: return isWithin(sign, '1', '9') ? END : WRONG;
                // 0 is a whole number, as there are no leading zeros
                case NUMBER: return sign == '0' ? END : isWithin(sign, '1', '9') ? SECOND : WRONG;
                case SECOND: return isWithin(sign, '0', '9') ? END : sign == ';' ? ORDER : WRONG;
                case END: return sign == ';' ? ORDER : WRONG;
                default: return WRONG;
            }
        }
    }

    /** The states before the latest changes, in a ring with one state more: the one that is noted, but not kept yet. */
    private static final class History {
        final Road[] states = new Road[MOST_STATES + 1];
        int noted, kept;

        History() {
            for (int i = 0; i < states.length; i++) {
                states[i] = new Road();
            }
        }

        /** Notes the state before a change that may still fail. */
        void note(Road road) {
            Road state = notedState();
            if (state != null) {
                state.become(road);
            }
        }

        /** Keeps what was noted; the oldest state's place, if all are kept, is the next one to note in. */
        void keep() {
            noted = noted + 1 < states.length ? noted + 1 : 0;
            kept = Math.min(kept + 1, MOST_STATES);
        }

        int stepBack(Road road) {
            if (kept <= 0) {
                return NOT_POSSIBLE;
            }
            kept--;
            noted = noted > 0 ? noted - 1 : states.length - 1;
            Road state = notedState();
            if (state != null) {
                road.become(state);
            }
            return kept;
        }

        private Road notedState() {
            return noted >= 0 && noted < states.length ? states[noted] : null;
        }
    }

    private static final class Slots {
        final Road[] roads = new Road[SLOTS];
        final boolean[] saved = new boolean[SLOTS];

        Slots() {
            for (int i = 0; i < roads.length; i++) {
                roads[i] = new Road();
            }
        }

        int keep(int slot, Road road) {
            if (!isSlot(slot)) {
                return BAD_VALUE;
            }
            Road kept = roads[slot];
            if (kept != null) {
                kept.become(road);
                saved[slot] = true;
            }
            return road.tick;
        }

        int giveBack(int slot, Road road) {
            if (!isSlot(slot)) {
                return BAD_VALUE;
            }
            Road kept = roads[slot];
            if (!saved[slot] || kept == null) {
                return NOT_POSSIBLE;
            }
            road.become(kept);
            return road.tick;
        }

        private boolean isSlot(int slot) {
            return slot >= 0 && slot < roads.length && slot < saved.length;
        }
    }
}
