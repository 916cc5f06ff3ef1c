/**
 * What an object answers, in views that are texts to be compared. A view needs at most 300 calls, as an object is used
 * for no more than 512: to see all, the same object is made once for each view.
 */
final class Views {
    static final int MANY = 11;

    private Views() {
    }

    /** A view, which may change the object: it is the last that is asked of it. */
    static String of(LoopListeners x, int view) {
        StringBuilder text = new StringBuilder();
        switch (view) {
            case 0: countsAndLoops(x, text); break;
            case 1: cars(x, 0, 20, text); break;
            case 2: cars(x, 20, 40, text); break;
            case 3: cells(x, text); break;
            case 4: forecasts(x, text); break;
            case 5: undone(x, text); break;
            case 6: restored(x, 0, text); break;
            case 7: restored(x, 1, text); break;
            case 8: carriedOut(x, text); break;
            case 9: later(x, text); break;
            default: added(x, text);
        }
        return text.toString();
    }

    private static void countsAndLoops(LoopListeners x, StringBuilder text) {
        for (int what = 0; what < 12; what++) {
            add(text, x.count(what));
        }
        for (int loop = 0; loop <= 6; loop++) {
            for (int what = 0; what < 10; what++) {
                add(text, x.ofLoop(loop, what));
            }
            add(text, x.error(loop));
            add(text, x.inside(loop, 0));
        }
        add(text, x.fault());
    }

    private static void cars(LoopListeners x, int from, int to, StringBuilder text) {
        for (int car = from; car < to; car++) {
            for (int what = 0; what < 10; what++) {
                add(text, x.ofCar(car, what));
            }
        }
    }

    private static void cells(LoopListeners x, StringBuilder text) {
        for (int lane = 0; lane < 2; lane++) {
            for (int cell = 0; cell < 40; cell++) {
                add(text, x.carAt(lane, cell));
            }
        }
    }

    private static void forecasts(LoopListeners x, StringBuilder text) {
        for (int loop = 0; loop < 6; loop++) {
            for (int ticks : new int[] {1, 5, 30, 100}) {
                add(text, x.countsIn(loop, ticks));
                add(text, x.countsAlone(loop, ticks));
                add(text, x.bestUpper(loop, ticks));
                add(text, x.bestTurn(ticks));
            }
        }
        for (int car = 0; car < 40; car++) {
            add(text, x.goneIn(car));
        }
    }

    private static void undone(LoopListeners x, StringBuilder text) {
        for (int times = 0; times < 7; times++) {
            add(text, x.undo());
            look(x, text);
        }
    }

    private static void restored(LoopListeners x, int slot, StringBuilder text) {
        add(text, x.restore(slot));
        look(x, text);
        add(text, x.ticks(3));
        look(x, text);
        add(text, x.undo());
        look(x, text);
    }

    private static void carriedOut(LoopListeners x, StringBuilder text) {
        add(text, x.put('1'));
        add(text, x.fault());
        add(text, x.carryOut());
        look(x, text);
        add(text, x.wipe());
        add(text, x.put('t' << 8 | '3'));
        add(text, x.carryOut());
        look(x, text);
    }

    private static void later(LoopListeners x, StringBuilder text) {
        for (int ticks : new int[] {1, 2, 3, 50}) {
            add(text, x.ticks(ticks));
            look(x, text);
        }
    }

    private static void added(LoopListeners x, StringBuilder text) {
        add(text, x.loop(0, 0, 3, 20, 10));
        add(text, x.come(0, 2, 2, 8));
        add(text, x.come(1, 1, 1, 9));
        add(text, x.want(0));
        add(text, x.speed(0, 2));
        add(text, x.set(0, 3));
        add(text, x.ticks(1));
        look(x, text);
        add(text, x.ticks(4));
        look(x, text);
    }

    /** A short look at much: 36 calls. */
    private static void look(LoopListeners x, StringBuilder text) {
        for (int what = 0; what < 12; what++) {
            add(text, x.count(what));
        }
        for (int number = 0; number < 2; number++) {
            for (int what : new int[] {0, 1, 3, 6, 7, 8}) {
                add(text, x.ofCar(number, what));
                add(text, x.ofLoop(number, what));
            }
        }
    }

    private static void add(StringBuilder text, int answer) {
        text.append(answer).append(' ');
    }
}
