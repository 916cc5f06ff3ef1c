/** The term "Texts", and promises 20 to 23, at all edges: each sign at each place, each number, each length of the pad. */
public final class FaultsTest {
    private static final int NONE = LoopListeners.NONE;
    private static final int BAD_VALUE = LoopListeners.BAD_VALUE, TOO_MANY = LoopListeners.TOO_MANY;
    private static final Due due = new Due();

    /** What may stand behind a text that has no fault as yet: all signs that are due there. */
    private static final String[][] NEXT = {
        {"", "cwt"}, {"c", "01"}, {"c0", "1234"}, {"c1", "1234"}, {"c01", "1234"}, {"c14", "1234"}, {"c011", "123456789"},
        {"c144", "123456789"}, {"c0111", ";"}, {"c1449", ";"}, {"w", "0123456789"}, {"w0", ";"}, {"w1", "0123456789;"},
        {"w9", "0123456789;"}, {"w10", ";"}, {"w99", ";"}, {"t", "0123456789"}, {"t0", ";"}, {"t1", "0123456789;"},
        {"t9", "0123456789;"}, {"t10", ";"}, {"t99", ";"},
    };

    public static void main(String[] args) {
        eachSignAtEachPlace();
        endsTooEarly();
        numbers();
        eachOrderOfACar();
        firstFaultOnly();
        fullPads();
        oneCharacter();
        characterAtEachPlace();
        bitsAboveTheEnd();
        lengthsOfThePad();
        wipeEachLength();
        mostOrders();
        errorAtEachPlace();
        wantsOfNumbers();
        ticksOfNumbers();
        carriedOutInAFullHistory();
        manyTexts();
        due.end();
    }

    private static LoopListeners with(String text) {
        LoopListeners x = new LoopListeners();
        Texts.put(x, text);
        due.is("length of " + text, x.count(8), text.length());
        return x;
    }

    /** "the index of the first character that cannot stand at its place when the text is read from left to right" */
    private static void eachSignAtEachPlace() {
        for (String start : new String[] {"", "t1;", "c0111;w99;"}) {
            for (String[] next : NEXT) {
                String text = start + next[0];
                for (char sign = 33; sign <= 126; sign++) {
                    int fault = with(text + sign).fault();
                    boolean stands = fault != text.length();
                    due.is("'" + sign + "' stands behind '" + text + "'", stands ? 1 : 0, next[1].indexOf(sign) >= 0 ? 1 : 0);
                }
            }
        }
    }

    /** "if there is none and the text ends too early (also if it is empty), it is the length of the text" */
    private static void endsTooEarly() {
        due.is("an empty text", new LoopListeners().fault(), 0);
        due.is("an empty text is not carried out", new LoopListeners().carryOut(), LoopListeners.BAD_TEXT);
        String[] whole = {"c0111", "c1449", "w0", "w7", "w42", "t0", "t9", "t99"};
        for (String start : new String[] {"", "t1;", "c0111;w99;"}) {
            for (String[] next : NEXT) {
                String text = start + next[0];
                boolean ends = java.util.List.of(whole).contains(next[0]) || next[1].endsWith(";");
                due.is("fault of " + text, with(text).fault(), ends ? NONE : text.length());
                if (!ends) {
                    LoopListeners x = with(text);
                    due.is("carryOut of " + text, x.carryOut(), LoopListeners.BAD_TEXT);
                    due.is("the pad stays", x.count(8), text.length());
                    due.is("no tick", x.count(0), 0);
                }
            }
            for (String order : whole) {
                due.is("fault of " + start + order, with(start + order).fault(), NONE);
                due.is("fault of " + start + order + ";", with(start + order + ";").fault(), start.length() + order.length() + 1);
            }
        }
    }

    /** "A number is 0 to 99, without leading zeros", "also of a digit by which a number would be above 99" */
    private static void numbers() {
        for (char kind : new char[] {'w', 't'}) {
            for (int number = 0; number <= 99; number++) {
                due.is("fault of " + kind + number, with("" + kind + number).fault(), NONE);
                due.is("fault of " + kind + "0" + number, with(kind + "0" + number).fault(), 2);
                due.is("fault of " + kind + number + "x", with("" + kind + number + "x").fault(), number < 10 ? 2 : 3);
            }
            for (int number = 100; number <= 1000; number += 9) {
                due.is("fault of " + kind + number, with("" + kind + number).fault(), 3);
                due.is("fault of " + kind + number + ";", with("t1;" + kind + number + ";").fault(), 6);
            }
        }
        due.is("a number far above 99", with("w99999999999999999999").fault(), 3);
        due.is("a number of zeros", with("w000000000000").fault(), 2);
    }

    /** "each of them a digit: 0 or 1, 1 to 4, 1 to 4, 1 to 9" */
    private static void eachOrderOfACar() {
        for (int lane = 0; lane <= 9; lane++) {
            for (int length = 0; length <= 9; length++) {
                for (int speed = 0; speed <= 9; speed++) {
                    for (int metal = 0; metal <= 9; metal += 3) {
                        String text = "c" + lane + length + speed + metal;
                        int fault = lane > 1 ? 1 : length < 1 || length > 4 ? 2 : speed < 1 || speed > 4 ? 3 : metal < 1 ? 4 : NONE;
                        LoopListeners x = with(text);
                        due.is("fault of " + text, x.fault(), fault);
                        due.is("carryOut of " + text, x.carryOut(), fault == NONE ? 1 : LoopListeners.BAD_TEXT);
                        due.is("cars by " + text, x.count(2), fault == NONE ? 1 : 0);
                        int numbers = ((x.ofCar(0, 0) * 10 + x.ofCar(0, 2)) * 10 + x.ofCar(0, 3)) * 10 + x.ofCar(0, 4);
                        due.is("the car by " + text, fault == NONE ? numbers : -1, fault == NONE ? Integer.parseInt(text.substring(1)) : -1);
                    }
                }
            }
        }
    }

    private static void firstFaultOnly() {
        due.is("of two faults", with("t1;x;y").fault(), 3);
        due.is("a fault ahead of an early end", with("c5;t").fault(), 1);
        due.is("two semicolons, and an early end", with("t1;;").fault(), 3);
        due.is("the first sign", with("!t1;t2").fault(), 0);
    }

    /** "a text of at most 60 characters" */
    private static void fullPads() {
        String nineteen = "t1;".repeat(19);
        due.is("60 characters", with(nineteen + "t10").fault(), NONE);
        due.is("60 characters, the last one wrong", with(nineteen + "t1x").fault(), 59);
        due.is("60 characters that end too early", with(nineteen + "t1;").fault(), 60);
        due.is("60 characters that end in an order", with(nineteen + "c01").fault(), 60);
        LoopListeners x = with(nineteen + "t1");
        due.is("59 characters", x.fault(), NONE);
        due.is("a 60th", x.put('0'), 60);
        due.is("a 61st", x.put('0'), TOO_MANY);
        due.is("no fault by what was refused", x.fault(), NONE);
        due.is("carried out", x.carryOut(), 20);
        due.is("ticks", x.count(0), 29);
    }

    /** "a code is not 33 to 126" */
    private static void oneCharacter() {
        for (int code = -300; code <= 300; code++) {
            boolean good = code >= 33 && code <= 126;
            LoopListeners x = new LoopListeners();
            due.is("put(" + code + ")", x.put(code), good ? 1 : BAD_VALUE);
            due.is("length", x.count(8), good ? 1 : 0);
        }
        for (int bit = 8; bit < 64; bit++) {
            due.is("put(2^" + bit + ")", new LoopListeners().put(1L << bit), BAD_VALUE);
            due.is("put(-2^" + bit + ")", new LoopListeners().put(-1L << bit), BAD_VALUE);
        }
    }

    /** The codes of each of 1 to 8 characters, and "8 bits that are 0 mean that there are no more characters" */
    private static void characterAtEachPlace() {
        for (int many = 1; many <= 8; many++) {
            for (int place = 0; place < many; place++) {
                for (int code = 0; code < 256; code++) {
                    long characters = 0;
                    for (int i = 0; i < many; i++) {
                        characters = characters << 8 | (i == place ? code : '~');
                    }
                    boolean good = code >= 33 && code <= 126;
                    // a 0 at the first place of several just makes them one fewer
                    int put = good ? many : code == 0 && place == 0 && many > 1 ? many - 1 : BAD_VALUE;
                    LoopListeners x = new LoopListeners();
                    due.is("code " + code + " at " + place + " of " + many, x.put(characters), put);
                    due.is("length", x.count(8), Math.max(put, 0));
                }
            }
        }
    }

    /** "and everything above them has to be 0, too" */
    private static void bitsAboveTheEnd() {
        for (int many = 1; many <= 6; many++) {
            long characters = Texts.number("~!~!~!".substring(0, many));
            due.is(many + " characters", new LoopListeners().put(characters), many);
            for (int bit = 8 * many + 8; bit < 64; bit++) {
                due.is("bit " + bit + " above " + many, new LoopListeners().put(characters | 1L << bit), BAD_VALUE);
            }
            due.is("all bits above " + many, new LoopListeners().put(characters | -1L << 8 * many + 8), BAD_VALUE);
        }
    }

    /** "TOO_MANY if the pad would be longer than 60": each number of characters, on each length of the pad */
    private static void lengthsOfThePad() {
        for (int length = 0; length <= 60; length++) {
            for (int many = 1; many <= 8; many++) {
                LoopListeners x = with("x".repeat(length));
                int then = length + many <= 60 ? length + many : TOO_MANY;
                due.is(many + " more than " + length, x.put(Texts.number("yyyyyyyy".substring(0, many))), then);
                due.is("length", x.count(8), length + many <= 60 ? length + many : length);
            }
        }
    }

    private static void wipeEachLength() {
        for (int length = 0; length <= 60; length++) {
            LoopListeners x = with("x".repeat(length));
            due.is("wipe", x.wipe(), length);
            due.is("length", x.count(8), 0);
            due.is("fault", x.fault(), 0);
            due.is("wipe again", x.wipe(), 0);
        }
    }

    /** As many orders as the pad takes: 20; and one alone. */
    private static void mostOrders() {
        for (int many = 1; many <= 20; many++) {
            LoopListeners x = with("t2;".repeat(many - 1) + "t2");
            due.is(many + " orders", x.carryOut(), many);
            due.is("ticks", x.count(0), 2 * many);
            due.is("one change", x.count(9), 1);
            due.is("the pad is empty", x.count(8), 0);
        }
    }

    /** "up to the first one that returns an error", "also if none is carried out" */
    private static void errorAtEachPlace() {
        // TOO_MANY stands in TextsTest, as 40 cars have to come for it
        String[] errors = {"w0", "w39", "w99", "t0", "c0111;c0111"};
        for (String error : errors) {
            int ahead = error.length() > 3 ? 1 : 0;
            for (int place = 0; place <= 10; place++) {
                LoopListeners x = with("t1;".repeat(place) + error + ";t1;c1111");
                due.is(error + " behind " + place, x.carryOut(), place + ahead);
                due.is("ticks", x.count(0), place);
                due.is("cars", x.count(2), ahead);
                due.is("one change", x.count(9), 1);
                due.is("the pad is empty", x.count(8), 0);
                due.is("undone", x.undo(), 0);
                due.is("no ticks", x.count(0), 0);
                due.is("no cars", x.count(2), 0);
            }
        }
    }

    /** "w": want() of each number: there are two cars, of which one is gone. */
    private static void wantsOfNumbers() {
        for (int number = 0; number <= 99; number++) {
            LoopListeners x = new LoopListeners();
            x.come(0, 1, 4, 1);
            x.ticks(10);
            x.come(0, 1, 4, 1);
            Texts.put(x, "w" + number);
            due.is("w" + number, x.carryOut(), number == 1 ? 1 : 0);
            due.is("the wish of 1", x.ofCar(1, 6), number == 1 ? 1 : 0);
        }
        LoopListeners y = new LoopListeners();
        for (int car = 0; car < 40; car++) {
            y.come(0, 1, 1, 1);
            y.ticks(1);
        }
        Texts.put(y, "w39;w40");
        due.is("the last one of 40, and one above it", y.carryOut(), 1);
        due.is("wants", y.ofCar(39, 6), 1);
    }

    /** "A number is 0 to 99", but "ticks: 1 to 100": "t0" has no fault, and is refused when it is carried out. */
    private static void ticksOfNumbers() {
        for (int number = 0; number <= 99; number++) {
            LoopListeners x = with("t" + number);
            due.is("fault of t" + number, x.fault(), LoopListeners.NONE);
            due.is("t" + number, x.carryOut(), number == 0 ? 0 : 1);
            due.is("ticks by t" + number, x.count(0), number);
        }
    }

    /** A text is one change, which drops the oldest of six. */
    private static void carriedOutInAFullHistory() {
        LoopListeners x = new LoopListeners();
        for (int i = 0; i < 6; i++) {
            x.ticks(10);
        }
        Texts.put(x, "t1;t1;t1;t1;t1;t1;t1;t1");
        due.is("orders", x.carryOut(), 8);
        due.is("changes", x.count(9), 6);
        int[] ticks = {60, 50, 40, 30, 20, 10};
        for (int i = 0; i < 6; i++) {
            due.is("undo", x.undo(), 5 - i);
            due.is("tick", x.count(0), ticks[i]);
        }
        due.is("the first one was dropped", x.undo(), LoopListeners.NOT_POSSIBLE);
    }

    /** Texts one after the other, long and short ones: nothing of one is left in the next one. */
    private static void manyTexts() {
        LoopListeners x = new LoopListeners();
        int ticks = 0;
        for (int i = 0; i < 40; i++) {
            int many = 1 + i * 7 % 20;
            Texts.put(x, "t9;".repeat(many - 1) + "t9");
            due.is("orders", x.carryOut(), many);
            ticks += 9 * many;
            due.is("ticks", x.count(0), ticks);
            due.is("fault", x.fault(), 0);
        }
    }
}
