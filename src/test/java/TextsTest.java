/** Promises 20 to 23: put, wipe, fault, carryOut. */
public final class TextsTest {
    private static final Due due = new Due();

    public static void main(String[] args) {
        put();
        putSixty();
        wipe();
        faults();
        faultOfSixty();
        carryOut();
        carryOutUpToAnError();
        carryOutNothing();
        carryOutFaulty();
        carryOutLong();
        due.end();
    }

    private static void put() {
        LoopListeners x = new LoopListeners();
        due.is("no character", x.put(0), LoopListeners.BAD_VALUE);
        due.is("code 32", x.put(32), LoopListeners.BAD_VALUE);
        due.is("code 127", x.put(127), LoopListeners.BAD_VALUE);
        due.is("code 255", x.put(255), LoopListeners.BAD_VALUE);
        due.is("a 0 as the last", x.put((long) 't' << 8), LoopListeners.BAD_VALUE);
        due.is("a 0 between", x.put((long) 't' << 16 | '1'), LoopListeners.BAD_VALUE);
        due.is("a bit above 0", x.put(1L << 62 | '1'), LoopListeners.BAD_VALUE);
        due.is("the highest bit above 0", x.put(Long.MIN_VALUE | '1'), LoopListeners.BAD_VALUE);
        due.is("all bits", x.put(-1), LoopListeners.BAD_VALUE);
        due.is("least", x.put(Long.MIN_VALUE), LoopListeners.BAD_VALUE);
        due.is("greatest", x.put(Long.MAX_VALUE), LoopListeners.BAD_VALUE);
        due.is("the first of 8 above 126", x.put(Texts.number("\u007ft1;t2;t")), LoopListeners.BAD_VALUE);
        due.is("the first of 8 negative", x.put(Texts.number("\u00fft1;t2;t")), LoopListeners.BAD_VALUE);
        due.is("the 5th of 8 is a space", x.put(Texts.number("t1;w 1;1")), LoopListeners.BAD_VALUE);
        due.is("nothing put", x.count(8), 0);
        due.is("code 33", x.put(33), 1);
        due.is("code 126", x.put(126), 2);
        due.is("8 characters", x.put(Texts.number("~!~!~!~!")), 10);
        due.is("length", x.count(8), 10);
        due.is("this is no change", x.count(9), 0);
        x.wipe();
        due.is("in their order", x.put(Texts.number("t1;t2")), 5);
        due.is("which has no fault", x.fault(), LoopListeners.NONE);
        due.is("appended", x.put(Texts.number("3;t4")), 9);
        due.is("no fault either", x.fault(), LoopListeners.NONE);
        due.is("carried out", x.carryOut(), 3);
        due.is("1 and 23 and 4", x.count(0), 28);
    }

    private static void putSixty() {
        LoopListeners x = new LoopListeners();
        for (int i = 1; i <= 7; i++) {
            due.is("put", x.put(Texts.number("12345678")), 8 * i);
        }
        due.is("61", x.put(Texts.number("12345")), LoopListeners.TOO_MANY);
        due.is("64", x.put(Texts.number("12345678")), LoopListeners.TOO_MANY);
        due.is("bad, and too many", x.put(Texts.number("123 5678")), LoopListeners.BAD_VALUE);
        due.is("length", x.count(8), 56);
        due.is("60", x.put(Texts.number("1234")), 60);
        due.is("the 61st", x.put('1'), LoopListeners.TOO_MANY);
        due.is("none, when full", x.put(0), LoopListeners.BAD_VALUE);
        due.is("length", x.count(8), 60);
        due.is("wipe", x.wipe(), 60);
        due.is("there is room again", x.put('1'), 1);
    }

    private static void wipe() {
        LoopListeners x = new LoopListeners();
        due.is("empty", x.wipe(), 0);
        x.put(Texts.number("t1;t2"));
        due.is("5 characters", x.wipe(), 5);
        due.is("length", x.count(8), 0);
        due.is("empty again", x.wipe(), 0);
        due.is("fault", x.fault(), 0);
        due.is("this is no change", x.count(9), 0);
        x.put(Texts.number("t3"));
        due.is("nothing is left of what was", x.carryOut(), 1);
        due.is("three ticks", x.count(0), 3);
        x.put(Texts.number("t12"));
        x.wipe();
        x.put(Texts.number("t1"));
        due.is("also not behind a number", x.carryOut(), 1);
        due.is("one tick", x.count(0), 4);
    }

    private static void fault(String text, int fault) {
        LoopListeners x = new LoopListeners();
        Texts.put(x, text);
        due.is("fault of " + text, x.fault(), fault);
        due.is("the pad stays", x.count(8), text.length());
        if (fault != LoopListeners.NONE) {
            due.is("carryOut of " + text, x.carryOut(), LoopListeners.BAD_TEXT);
        }
    }

    private static void faults() {
        String[] right = {"c0111", "c1449", "w0", "w9", "w10", "w99", "t0", "t9", "t90", "t99", "t1;w2;c0235;t40;w7", "t0;t0"};
        for (String text : right) {
            fault(text, LoopListeners.NONE);
        }
        // behind the bar stands what is wrong, or nothing if the text ends too early
        String[] wrong = {
            "|", "|x", "|0", "|;", "|C0111", "|T1", "|W1", "c|", "c|2111", "c|/111", "c0|", "c0|011", "c0|5", "c01|", "c01|0",
            "c01|5", "c011|", "c011|0", "c011|:", "c0111|1", "c0111|c0111", "c0111|!", "c0111;|", "w|", "w|;", "w|x", "w0|0",
            "w0|9", "w10|0", "w99|9", "w1|x", "w12|w1", "t|", "t|-1", "t|/", "t|:", "t0|1", "t0|0", "t10|0",
            "t1;|", "t1;|;", "t1;w2;|x", "t1;c02|0", "t12;w3;c|", "t1|:", "t1|/", "t12|:", "c0111;w|w", "t5;w|t",
        };
        for (String text : wrong) {
            int at = text.indexOf('|');
            fault(text.substring(0, at) + text.substring(at + 1), at);
        }
    }

    private static void faultOfSixty() {
        String order = "t1;";
        StringBuilder text = new StringBuilder();
        for (int i = 0; i < 19; i++) {
            text.append(order);
        }
        fault(text + "w99", LoopListeners.NONE);
        fault(text + "w9x", 59);
        fault(text + "w1;", 60);
        fault(text + "c00", 59);
    }

    private static void carryOut() {
        LoopListeners x = new LoopListeners();
        Texts.put(x, "c0139;c1421;w0;t1;w0;w0;t10;w1");
        due.is("no fault", x.fault(), LoopListeners.NONE);
        due.is("orders", x.carryOut(), 8);
        due.is("the pad is empty", x.count(8), 0);
        due.is("one change", x.count(9), 1);
        due.is("ticks", x.count(0), 11);
        int[][] cars = {{1, 30, 1, 3, 9, 0, 0, 1}, {1, 20, 4, 2, 1, 0, 1, 0}};
        for (int car = 0; car < 2; car++) {
            for (int what = 0; what < 8; what++) {
                due.is("ofCar(" + car + ", " + what + ")", x.ofCar(car, what), cars[car][what]);
            }
        }
        due.is("undone all at once", x.undo(), 0);
        due.is("no cars", x.count(2), 0);
        due.is("no ticks", x.count(0), 0);
        due.is("the pad does not come back", x.count(8), 0);
        x.come(1, 1, 2, 3);
        x.ticks(5);
        Texts.put(x, "t7;w0");
        due.is("orders then", x.carryOut(), 2);
        due.is("undone to what was just before", x.undo(), 2);
        due.is("tick", x.count(0), 5);
        due.is("front", x.ofCar(0, 1), 10);
        due.is("wish", x.ofCar(0, 6), 0);
    }

    private static void carryOutUpToAnError() {
        String[] texts = {"t2;t0;t5", "t2;w0;t5", "t2;c0111;c0111;t5", "t2;w40;t5", "t2;c1111;w1;w0"};
        int[] done = {1, 1, 2, 1, 2};
        for (int i = 0; i < texts.length; i++) {
            LoopListeners x = new LoopListeners();
            Texts.put(x, texts[i]);
            due.is("carried out of " + texts[i], x.carryOut(), done[i]);
            due.is("ticks of " + texts[i], x.count(0), 2);
            due.is("cars of " + texts[i], x.count(2), done[i] - 1);
            due.is("the pad is empty", x.count(8), 0);
            due.is("one change", x.count(9), 1);
        }
        LoopListeners y = new LoopListeners();
        Texts.put(y, "c1111;t99;w0;t1");
        due.is("a car that is gone", y.carryOut(), 2);
        LoopListeners z = new LoopListeners();
        for (int car = 0; car < 39; car++) {
            z.come(0, 1, 4, 1);
            z.ticks(1);
        }
        Texts.put(z, "c0111;t1;c0111");
        due.is("the 41st car", z.carryOut(), 2);
        due.is("the 40th came", z.count(2), 40);
    }

    private static void carryOutNothing() {
        LoopListeners x = new LoopListeners();
        Texts.put(x, "w0;t5");
        due.is("none", x.carryOut(), 0);
        due.is("a change all the same", x.count(9), 1);
        due.is("the pad is empty", x.count(8), 0);
        due.is("no ticks", x.count(0), 0);
        due.is("undo", x.undo(), 0);
    }

    private static void carryOutFaulty() {
        LoopListeners x = new LoopListeners();
        due.is("empty", x.carryOut(), LoopListeners.BAD_TEXT);
        Texts.put(x, "t5;t");
        due.is("ends too early", x.carryOut(), LoopListeners.BAD_TEXT);
        due.is("nothing is carried out", x.count(0), 0);
        due.is("no change", x.count(9), 0);
        due.is("the pad stays", x.count(8), 4);
        x.put('7');
        due.is("it can be mended", x.carryOut(), 2);
        due.is("ticks", x.count(0), 12);
    }

    private static void carryOutLong() {
        LoopListeners x = new LoopListeners();
        StringBuilder text = new StringBuilder("t99");
        for (int i = 0; i < 14; i++) {
            text.append(";t99");
        }
        Texts.put(x, text.toString());
        due.is("fifteen", x.carryOut(), 15);
        due.is("ticks", x.count(0), 15 * 99);
        Texts.put(x, "t1;t1;t1;t1;t1;t1;t1;t1;t1;t1;t1;t1;t1;t1;t1;t1;t1;t1;t1;t10");
        due.is("sixty characters", x.count(8), 60);
        due.is("twenty", x.carryOut(), 20);
        due.is("ticks then", x.count(0), 15 * 99 + 29);
        due.is("two changes", x.count(9), 2);
    }
}
