/** Roads on which calls are tried out. */
enum Roads {
    NEW, BUSY, FULL, CROWDED, FAULTY;

    /** A road as it is named, made anew. */
    LoopListeners made() {
        LoopListeners x = new LoopListeners();
        switch (this) {
            case BUSY: makeBusy(x); break;
            case FULL: makeFull(x); break;
            case CROWDED: makeCrowded(x); break;
            case FAULTY: makeFaulty(x); break;
            default:
        }
        return x;
    }

    /** Two loops; car 0 is gone, car 1 is over a loop, car 2 is at the cell 0 and wants; a slot is saved; five changes. */
    private static void makeBusy(LoopListeners x) {
        x.loop(0, 3, 2, 20, 10);
        x.loop(1, 3, 2, 9, 4);
        x.come(1, 1, 4, 9);
        x.ticks(10);
        x.save(1);
        x.come(0, 2, 3, 7);
        x.ticks(1);
        x.come(0, 3, 1, 4);
        x.want(2);
        x.want(1);
        x.undo();
        Texts.put(x, "t3;w2");
    }

    /** Six loops, forty cars, of which two are at the cells 0, six changes, sixty characters, both slots. */
    private static void makeFull(LoopListeners x) {
        for (int loop = 0; loop < 6; loop++) {
            x.loop(loop % 2, 4 * loop, 1 + loop % 3, 30, 10);
        }
        for (int times = 0; times < 5; times++) {
            Texts.put(x, "c0141;c1148;t1;c0141;c1148;t1;c0141;c1148;t1;c0141;c1148" + (times < 4 ? ";t1" : ""));
            x.carryOut();
            x.save(times % 2);
        }
        Texts.put(x, "t1;t1;t1;t1;t1;t1;t1;t1;t1;t1;t1;t1;t1;t1;t1;t1;t1;t1;t1;w39");
    }

    /** Forty cars on the road, of all speeds, of which some want, over and beside three loops; six changes. */
    private static void makeCrowded(LoopListeners x) {
        for (int times = 0; times < 5; times++) {
            Texts.put(x, "c0119;c1112;t1;c0113;c1111;t1;c0117;c1118;t1;c0112;c1116;t1");
            x.carryOut();
        }
        x.loop(0, 37, 3, 30, 20);
        x.loop(1, 21, 2, 36, 9);
        x.loop(0, 0, 1, 8, 8);
        for (int car = 0; car < 40; car += 3) {
            x.speed(car, car % 5);
            x.want((car * 7 + 2) % 40);
        }
        Texts.put(x, "t9");
    }

    private static void makeFaulty(LoopListeners x) {
        x.loop(0, 0, 1, 1, 1);
        x.come(0, 1, 1, 1);
        Texts.put(x, "t5;w");
    }
}
