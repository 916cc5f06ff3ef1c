/**
 * Runs of calls in a made-up order, on the class and on the plain model side by side: each answer has to be the same,
 * and so has all that can be asked for at the end. An object is used for no more than 512 calls: a run is made once for
 * each part of what is asked at its end. The numbers come from a fixed row, so that every run of this test is the same.
 */
public final class RandomRunsTest {
    private static final int RUNS = 600, MOST_CALLS = 512, MOST_CALLS_OF_A_STEP = 7, PARTS = 4, CALLS_OF_A_PART = 250;
    private static final int[] EDGES = {Integer.MIN_VALUE, -7, -1, 0, 1, 2, 5, 6, 9, 10, 12, 39, 40, 41, 100, 101, 200, 201, Integer.MAX_VALUE};
    private static final Due due = new Due();

    private LoopListeners real = new LoopListeners();
    private PlainModel plain = new PlainModel();
    private long seed;
    private String name;
    private int calls;

    public static void main(String[] args) {
        for (int run = 0; run < RUNS && due.allRight(); run++) {
            if (run % 10 == 0) {
                new RandomRunsTest().run(run, MOST_CALLS);
                continue;
            }
            for (int part = 0; part < PARTS && due.allRight(); part++) {
                RandomRunsTest test = new RandomRunsTest();
                test.run(run, run * 37 % (MOST_CALLS - CALLS_OF_A_PART));
                test.compare(part);
            }
        }
        due.end();
    }

    private int below(int bound) {
        seed = seed * 6364136223846793005L + 1442695040888963407L;
        return (int) ((seed >>> 33) % bound);
    }

    /** Mostly a number from the range, sometimes an edge or a number beyond it. */
    private int from(int least, int most) {
        int kind = below(24);
        return kind == 0 ? EDGES[below(EDGES.length)] : kind == 1 ? least - 1 + below(most - least + 3) : least + below(most - least + 1);
    }

    private void run(int run, int most) {
        seed = run * 7919L + 13;
        // a run has its own liking: many cars or few, long waits or short ones
        int mostTicks = new int[] {2, 3, 5, 30, 100}[run % 5];
        while (calls + MOST_CALLS_OF_A_STEP <= most && due.allRight()) {
            name = "run " + run + ", call " + calls + ": ";
            step(mostTicks);
        }
    }

    private void is(String call, int got, int want) {
        calls++;
        due.is(name + call, got, want);
    }

    private void step(int mostTicks) {
        int kind = below(100);
        if (kind < 22) {
            come();
        } else if (kind < 44) {
            int ticks = from(1, mostTicks);
            is("ticks " + ticks, real.ticks(ticks), plain.ticks(ticks));
        } else if (kind < 52) {
            int car = likelyCar();
            is("want " + car, real.want(car), plain.want(car));
        } else if (kind < 58) {
            int car = likelyCar();
            int speed = from(0, 4);
            is("speed " + car + " " + speed, real.speed(car, speed), plain.speed(car, speed));
        } else if (kind < 66) {
            setUp();
        } else if (kind < 72) {
            whatIf();
        } else if (kind < 84) {
            texts();
        } else if (kind < 92) {
            history();
        } else {
            ask();
        }
    }

    private int likelyCar() {
        int came = plain.count(2);
        return came > 0 && below(10) > 0 ? Math.max(0, came - 1 - below(8)) : from(0, 40);
    }

    private void come() {
        int lane = from(0, 1);
        int length = from(1, 4);
        int speed = from(1, 4);
        int metal = from(1, 9);
        is("come " + lane + " " + length + " " + speed + " " + metal, real.come(lane, length, speed, metal), plain.come(lane, length, speed, metal));
    }

    private void setUp() {
        int kind = below(3);
        int upper = from(1, below(2) == 0 ? 60 : 200);
        int lower = from(1, Math.min(Math.max(upper, 1), 200));
        if (kind == 0) {
            int lane = from(0, 1);
            int cell = below(2) == 0 ? from(0, 39) : from(0, 6);
            int cells = from(1, 3);
            is("loop " + lane + " " + cell + " " + cells + " " + upper + " " + lower,
                real.loop(lane, cell, cells, upper, lower), plain.loop(lane, cell, cells, upper, lower));
        } else if (kind == 1) {
            int loop = from(0, 5);
            is("bounds " + loop + " " + upper + " " + lower, real.bounds(loop, upper, lower), plain.bounds(loop, upper, lower));
        } else {
            int setting = from(0, 1);
            int value = setting == 0 ? from(0, 8) : from(1, 5);
            is("set " + setting + " " + value, real.set(setting, value), plain.set(setting, value));
        }
    }

    private void whatIf() {
        int loop = from(0, Math.max(0, plain.count(1) - 1));
        int ticks = from(1, below(3) == 0 ? 100 : 20);
        switch (below(12)) {
            case 0: case 1: is("countsIn " + loop + " " + ticks, real.countsIn(loop, ticks), plain.countsIn(loop, ticks)); break;
            case 2: case 3: is("countsAlone " + loop + " " + ticks, real.countsAlone(loop, ticks), plain.countsAlone(loop, ticks)); break;
            case 4:
                int few = Math.min(ticks, 24);
                is("bestUpper " + loop + " " + few, real.bestUpper(loop, few), plain.bestUpper(loop, few));
                break;
            case 5: case 6: is("bestTurn " + ticks, real.bestTurn(ticks), plain.bestTurn(ticks)); break;
            case 7: case 8:
                int other = from(0, 5);
                is("inside " + loop + " " + other, real.inside(loop, other), plain.inside(loop, other));
                break;
            default:
                int car = likelyCar();
                is("goneIn " + car, real.goneIn(car), plain.goneIn(car));
        }
    }

    private String piece() {
        switch (below(12)) {
            case 0: return ";";
            case 1: return "c" + below(3) + below(6) + below(6) + below(10);
            case 2: case 3: return "c" + below(2) + (1 + below(4)) + (1 + below(4)) + (1 + below(9)) + ";";
            case 4: return "w" + below(45);
            case 5: return "w" + below(45) + ";";
            case 6: return "t" + below(12);
            case 7: return ";t" + (1 + below(99));
            case 8: return ";t" + below(110);
            case 9: return "t" + (1 + below(6)) + ";w" + below(8);
            case 10: return String.valueOf((char) (33 + below(94)));
            default: return "t1;c" + below(2) + "11" + (1 + below(9));
        }
    }

    private void texts() {
        int kind = below(10);
        if (kind < 6) {
            long characters = Texts.number(piece());
            if (below(20) == 0) {
                characters ^= 1L << below(64);
            }
            is("put " + characters, real.put(characters), plain.put(characters));
        } else if (kind < 7) {
            is("wipe", real.wipe(), plain.wipe());
        } else if (kind < 8) {
            is("fault", real.fault(), plain.fault());
        } else {
            // what is wrong at the end is taken off by a new start, so that texts are carried out often enough
            if (plain.fault() != PlainModel.NONE && below(2) == 0) {
                is("wipe", real.wipe(), plain.wipe());
                for (String text : new String[] {"t1;c0121", ";w" + below(12) + ";t2"}) {
                    is("put " + text, real.put(Texts.number(text)), plain.put(Texts.number(text)));
                }
            }
            is("carryOut", real.carryOut(), plain.carryOut());
        }
    }

    private void history() {
        int slot = from(0, 1);
        switch (below(5)) {
            case 0: is("save " + slot, real.save(slot), plain.save(slot)); break;
            case 1: is("restore " + slot, real.restore(slot), plain.restore(slot)); break;
            default:
                // now and then the whole history, and once more than there is
                for (int times = below(8) == 0 ? 7 : 1; times > 0; times--) {
                    is("undo", real.undo(), plain.undo());
                }
        }
    }

    private void ask() {
        int number = from(0, 6);
        int what = from(0, 12);
        int cell = from(0, 39);
        is("ofCar " + number + " " + what, real.ofCar(number, what), plain.ofCar(number, what));
        is("ofLoop " + number + " " + what, real.ofLoop(number, what), plain.ofLoop(number, what));
        is("error " + number, real.error(number), plain.error(number));
        is("carAt " + number + " " + cell, real.carAt(number, cell), plain.carAt(number, cell));
        is("count " + what, real.count(what), plain.count(what));
    }

    private void compare(int part) {
        switch (part) {
            case 0: compareLoops(); break;
            case 1: compareCars(0, 20); break;
            case 2: compareCars(20, 40); break;
            default: compareCells();
        }
        due.is(name + "calls are few enough", calls <= MOST_CALLS ? 1 : 0, 1);
    }

    private void compareLoops() {
        for (int what = -1; what <= 12; what++) {
            is("count " + what, real.count(what), plain.count(what));
            for (int loop = 0; loop <= plain.count(1); loop++) {
                is("ofLoop " + loop + " " + what, real.ofLoop(loop, what), plain.ofLoop(loop, what));
            }
        }
        is("fault", real.fault(), plain.fault());
    }

    private void compareCars(int from, int to) {
        for (int car = from; car < to; car++) {
            for (int what = 0; what <= 10; what++) {
                is("ofCar " + car + " " + what, real.ofCar(car, what), plain.ofCar(car, what));
            }
            is("goneIn " + car, real.goneIn(car), plain.goneIn(car));
        }
    }

    private void compareCells() {
        for (int lane = 0; lane < 2; lane++) {
            for (int cell = 0; cell < 40; cell++) {
                is("carAt " + lane + " " + cell, real.carAt(lane, cell), plain.carAt(lane, cell));
            }
        }
        for (int loop = 0; loop <= plain.count(1); loop++) {
            is("countsIn " + loop, real.countsIn(loop, 60), plain.countsIn(loop, 60));
            is("countsAlone " + loop, real.countsAlone(loop, 60), plain.countsAlone(loop, 60));
            is("error " + loop, real.error(loop), plain.error(loop));
            is("bestTurn", real.bestTurn(7 + loop), plain.bestTurn(7 + loop));
        }
    }
}
