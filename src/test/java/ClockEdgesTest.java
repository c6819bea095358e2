/** Boundary cases of promises 29 to 38 and of Terms IV: FRAMES AHEAD, IN TIME, SPARE, a STEP. */
public final class ClockEdgesTest {
    private static final Check CHECK = new Check("ClockEdgesTest");
    private static final int[] FAR = {-1, Integer.MIN_VALUE, Integer.MAX_VALUE};
    /** SLACKS 0, 2, 4, 4 by FRAMES of 5; its JOB is OPEN at the beginning of FRAME 1. */
    private static final String ZERO = Check.mode(5, 1) + Check.task(0, 20, 6, 20);
    /** SLACK 1 by FRAMES of 4. */
    private static final String ONE = Check.mode(4, 3);
    /** No TABLE. */
    private static final String TWO = Check.mode(7, 0) + Check.task(0, 20, 1, 20);
    private static final String PLAN = ZERO + ";" + ONE + ";" + TWO;
    /** SLACK 1 by FRAMES of 10: 40 up to 400. */
    private static final String SLOW = Check.mode(10, 9);
    /** SLACK 4 by FRAMES of 4: 400 up to 400. */
    private static final String FREE = Check.mode(4, 0);
    /** SLACK 10 by FRAMES of 10. */
    private static final String TEN = Check.mode(10, 0);

    public static void main(String[] args) {
        CHECK.runAll(ClockEdgesTest.class);
        CHECK.end();
    }

    private interface Call {
        int of(FrameRound x);
    }

    private static void clock(String what, FrameRound x, int... due) {
        for (int i = 0; i < due.length; i++) {
            CHECK.told(what + " clock " + i, x, x.clock(i), due[i]);
        }
    }

    private static FrameRound eightWaiting() {
        FrameRound x = Check.planned(SLOW);
        for (int i = 0; i < 8; i++) {
            CHECK.told("33 take " + i, x, x.take(1, 400), i);
        }
        return x;
    }

    /** 1 without a PLAN; 5 without a TABLE; neither changes anything. */
    private static void withoutPlanOrTable(Call call) {
        FrameRound none = new FrameRound();
        CHECK.refused("without a PLAN", none, call.of(none), 1);
        FrameRound x = Check.planned(TWO + ";" + SLOW);
        CHECK.refused("without a TABLE", x, call.of(x), 5);
        clock("without a TABLE", x, 0, 0, 0, 0, 0, 0, 0, -2, -2, -2);
    }

    // ---- promise 29

    static void promise29_numbers() {
        FrameRound none = new FrameRound();
        CHECK.refused("without a PLAN", none, none.clock(0), 1);
        FrameRound x = Check.planned(PLAN);
        CHECK.told("the first", x, x.clock(0), 0);
        CHECK.told("the last", x, x.clock(9), -2);
        CHECK.refused("the next", x, x.clock(10), 1);
        for (int what : FAR) {
            CHECK.refused("what " + what, x, x.clock(what), 1);
        }
    }

    static void promise29_begins() {
        clock("a PLAN", Check.planned(PLAN), 0, 0, 0, 0, 0, 0, 0, -2, -2, -2);
        FrameRound x = Check.planned(TWO + ";" + ONE);
        clock("no TABLE is no refusal", x, 0, 0, 0, 0, 0, 0, 0, -2, -2, -2);
        CHECK.refused("no what", x, x.clock(10), 1);
    }

    /** Behind the last FRAME of the ROUND FRAME 0 again. */
    static void promise29_whichFrame() {
        FrameRound x = Check.planned(PLAN);
        for (int n = 0; n <= 9; n++) {
            CHECK.told("NOW", x, x.clock(0), 5 * n);
            CHECK.told("FRAME", x, x.clock(2), n % 4);
            x.step(0);
        }
        FrameRound y = Check.planned(SLOW);
        y.run(3);
        CHECK.told("one FRAME alone", y, y.clock(2), 0);
    }

    static void promise29_counted() {
        FrameRound x = Check.planned(TEN);
        x.take(4, 10);
        x.take(4, 17);
        x.take(4, 400);
        // 8 of 10 are needed up to 17, which is up to 10.
        CHECK.told("2 of 3", x, x.step(3), 2);
        clock("two DONE", x, 10, 0, 0, 1, 2, 2, 1, -2, -2, 0);
        CHECK.told("all SLACK", x, x.step(99), 10);
        clock("none DONE", x, 20, 0, 0, 1, 2, 12, 90, -2, -2, 0);
        x.step(0);
        clock("all DONE", x, 30, 0, 0, 0, 3, 12, 90, -2, -2, 0);
    }

    /** 0 left, and -2 for none at all. */
    static void promise29_theLeastTimeLeft() {
        FrameRound x = Check.planned(TEN);
        x.run(1);
        CHECK.told("none DONE", x, x.clock(9), -2);
        x.take(1, 410);
        x.step(0);
        CHECK.told("the most", x, x.clock(9), 390);
        x.take(1, 31);
        x.step(0);
        CHECK.told("1", x, x.clock(9), 1);
        x.take(1, 50);
        x.step(0);
        CHECK.told("the least stays", x, x.clock(9), 1);
        x.take(1, 50);
        x.step(0);
        CHECK.told("just in time", x, x.clock(9), 0);
        FrameRound y = Check.planned(TEN);
        y.take(1, 10);
        y.take(1, 19);
        y.step(0);
        CHECK.told("of two", y, y.clock(9), 0);
    }

    // ---- promise 30

    static void promise30_numbers() {
        FrameRound none = new FrameRound();
        CHECK.refused("without a PLAN", none, none.ahead(0, 0), 1);
        CHECK.refused("without a PLAN, 1 ahead of 2", none, none.ahead(100, 0), 1);
        FrameRound x = Check.planned(PLAN);
        CHECK.told("the first", x, x.ahead(0, 0), 0);
        CHECK.told("the last", x, x.ahead(99, 0), 495);
        CHECK.told("which it is", x, x.ahead(99, 2), 3);
        CHECK.told("its SLACK", x, x.ahead(99, 3), 4);
        CHECK.refused("the next", x, x.ahead(100, 0), 2);
        CHECK.refused("the next what", x, x.ahead(0, 4), 1);
        CHECK.refused("both: 1 ahead of 2", x, x.ahead(100, 4), 1);
        for (int far : FAR) {
            CHECK.refused("n " + far, x, x.ahead(far, 3), 2);
            CHECK.refused("what " + far, x, x.ahead(0, far), 1);
            CHECK.refused("both " + far, x, x.ahead(far, far), 1);
        }
        FrameRound y = Check.planned(TWO);
        CHECK.refused("no TABLE", y, y.ahead(0, 0), 5);
        CHECK.refused("no TABLE, 5 ahead of 2", y, y.ahead(100, 0), 5);
        CHECK.refused("no TABLE, 1 ahead of 5", y, y.ahead(0, 4), 1);
        CHECK.refused("no TABLE, 1 ahead of 5", y, y.ahead(-1, -1), 1);
    }

    private static void ahead(FrameRound x, int[]... due) {
        for (int n = 0; n < due.length; n++) {
            for (int what = 0; what < 4; what++) {
                CHECK.told("ahead " + n + " " + what, x, x.ahead(n, what), due[n][what]);
            }
        }
    }

    static void promise30_behindTheLastFrame() {
        FrameRound x = Check.planned(PLAN);
        x.run(3);
        ahead(x, new int[] {15, 0, 3, 4}, new int[] {20, 0, 0, 0}, new int[] {25, 0, 1, 2}, new int[] {30, 0, 2, 4},
            new int[] {35, 0, 3, 4}, new int[] {40, 0, 0, 0});
        FrameRound y = Check.planned(SLOW);
        ahead(y, new int[] {0, 0, 0, 1}, new int[] {10, 0, 0, 1}, new int[] {20, 0, 0, 1});
        FrameRound z = Check.planned(Check.mode(4, 0) + Check.task(44, 48, 4, 4) + Check.task(0, 32, 1, 32));
        CHECK.told("the last of 24", z, z.ahead(23, 2), 23);
        CHECK.told("its SLACK", z, z.ahead(23, 3), 0);
        CHECK.told("behind it", z, z.ahead(24, 2), 0);
        CHECK.told("its SLACK", z, z.ahead(24, 3), 3);
        CHECK.told("99", z, z.ahead(99, 2), 3);
    }

    /** From the SWITCH on those of the other mode, from FRAME 0. */
    static void promise30_fromTheSwitchOn() {
        FrameRound x = Check.planned(PLAN);
        x.run(1);
        CHECK.told("a SWITCH", x, x.change(1), 10);
        ahead(x, new int[] {5, 0, 1, 2}, new int[] {10, 1, 0, 1}, new int[] {14, 1, 0, 1}, new int[] {18, 1, 0, 1});
        CHECK.told("the last", x, x.ahead(99, 0), 402);
        x.run(1);
        ahead(x, new int[] {10, 1, 0, 1}, new int[] {14, 1, 0, 1});
        CHECK.told("the last", x, x.ahead(99, 0), 406);
    }

    static void promise30_fromTheSwitchOnTheSameMode() {
        FrameRound x = Check.planned(PLAN);
        x.run(1);
        CHECK.told("a SWITCH", x, x.change(0), 10);
        ahead(x, new int[] {5, 0, 1, 2}, new int[] {10, 0, 0, 0}, new int[] {15, 0, 1, 2}, new int[] {20, 0, 2, 4},
            new int[] {25, 0, 3, 4}, new int[] {30, 0, 0, 0});
    }

    /** The SWITCH at the 99th and at the 100th of them. */
    static void promise30_aSwitchFarAhead() {
        String none = Check.mode(4, 0) + Check.task(0, 4, 4, 4);
        FrameRound x = Check.planned(FREE + ";" + none);
        x.take(396, 400);
        CHECK.told("99 FRAMES", x, x.change(1), 396);
        CHECK.told("the last of the one", x, x.ahead(98, 1), 0);
        CHECK.told("the first of the other", x, x.ahead(99, 1), 1);
        CHECK.told("when it begins", x, x.ahead(99, 0), 396);
        FrameRound y = Check.planned(FREE + ";" + none);
        y.take(397, 400);
        CHECK.told("100 FRAMES", y, y.change(1), 400);
        CHECK.told("still the one", y, y.ahead(99, 1), 0);
        CHECK.told("when it begins", y, y.ahead(99, 0), 396);
    }

    // ---- promise 31

    static void promise31_numbers() {
        FrameRound none = new FrameRound();
        CHECK.refused("without a PLAN", none, none.waiting(0, 0), 1);
        FrameRound noTable = Check.planned(TWO);
        CHECK.refused("without a TABLE", noTable, noTable.waiting(0, 0), 1);
        FrameRound x = Check.planned(SLOW);
        CHECK.refused("none", x, x.waiting(0, 0), 1);
        x.take(1, 400);
        CHECK.told("the only one", x, x.waiting(0, 0), 1);
        CHECK.refused("the next", x, x.waiting(1, 0), 1);
        CHECK.told("the last what", x, x.waiting(0, 2), 10);
        CHECK.refused("the next what", x, x.waiting(0, 3), 1);
        for (int far : FAR) {
            CHECK.refused("i " + far, x, x.waiting(far, 0), 1);
            CHECK.refused("what " + far, x, x.waiting(0, far), 1);
        }
        x.step(0);
        CHECK.refused("DONE", x, x.waiting(0, 0), 1);
    }

    static void promise31_eight() {
        FrameRound x = eightWaiting();
        for (int i = 0; i < 8; i++) {
            CHECK.told("NEED", x, x.waiting(i, 0), 1);
            CHECK.told("DUE", x, x.waiting(i, 1), 400);
            CHECK.told("those ahead of it go first", x, x.waiting(i, 2), 10 * (i + 1));
        }
        CHECK.refused("the next", x, x.waiting(8, 0), 1);
        x.step(0);
        CHECK.told("the last", x, x.waiting(6, 2), 80);
        CHECK.refused("the next", x, x.waiting(7, 0), 1);
    }

    /** The FRAME by which it is DONE ends at its DUE, or ahead of it; not the one behind. */
    static void promise31_when() {
        FrameRound x = Check.planned(PLAN);
        x.take(2, 10);
        CHECK.told("just", x, x.waiting(0, 2), 10);
        x.take(4, 19);
        CHECK.told("earlier", x, x.waiting(1, 2), 15);
        x.take(1, 400);
        CHECK.told("one more", x, x.waiting(2, 2), 20);
        FrameRound y = Check.planned(PLAN);
        y.run(3);
        y.take(5, 400);
        CHECK.told("behind the last FRAME", y, y.waiting(0, 2), 30);
        FrameRound z = Check.planned(FREE);
        z.take(400, 400);
        CHECK.told("the latest", z, z.waiting(0, 2), 400);
    }

    static void promise31_behindTheSwitch() {
        FrameRound x = Check.planned(PLAN);
        x.run(1);
        x.change(1);
        x.take(2, 20);
        CHECK.told("ahead of it", x, x.waiting(0, 2), 10);
        x.take(1, 20);
        CHECK.told("behind it", x, x.waiting(1, 2), 14);
    }

    // ---- promises 32, 33

    static void promise32_numbers() {
        withoutPlanOrTable(x -> x.canTake(1, 10));
        withoutPlanOrTable(x -> x.canTake(0, 0));
        FrameRound x = Check.planned(SLOW);
        CHECK.told("the least NEED", x, x.canTake(1, 10), 1);
        CHECK.told("the greatest", x, x.canTake(400, 400), 0);
        CHECK.refused("0", x, x.canTake(0, 10), 2);
        CHECK.refused("401", x, x.canTake(401, 400), 2);
        CHECK.told("the least DUE", x, x.canTake(1, 1), 0);
        CHECK.told("the greatest", x, x.canTake(1, 400), 1);
        CHECK.refused("NOW", x, x.canTake(1, 0), 2);
        CHECK.refused("401 later", x, x.canTake(1, 401), 2);
        for (int far : FAR) {
            CHECK.refused("NEED " + far, x, x.canTake(far, 10), 2);
            CHECK.refused("DUE " + far, x, x.canTake(1, far), 2);
        }
        x.run(3);
        CHECK.refused("NOW", x, x.canTake(1, 30), 2);
        CHECK.told("1 later", x, x.canTake(1, 31), 0);
        CHECK.told("400 later", x, x.canTake(1, 430), 1);
        CHECK.refused("401 later", x, x.canTake(1, 431), 2);
        CHECK.refused("a time, not how much later", x, x.canTake(1, 10), 2);
    }

    /** FRAMES that end no later than its DUE; SLACKS no less than the NEEDS. */
    static void promise32_justInTime() {
        FrameRound x = Check.planned(SLOW);
        CHECK.told("9", x, x.canTake(1, 9), 0);
        CHECK.told("10", x, x.canTake(1, 10), 1);
        CHECK.told("2 up to 19", x, x.canTake(2, 19), 0);
        CHECK.told("2 up to 20", x, x.canTake(2, 20), 1);
        CHECK.told("3 up to 20", x, x.canTake(3, 20), 0);
        CHECK.told("40", x, x.canTake(40, 400), 1);
        CHECK.told("41", x, x.canTake(41, 400), 0);
        FrameRound y = Check.planned(FREE);
        CHECK.told("400 up to 400", y, y.canTake(400, 400), 1);
        CHECK.told("400 up to 399", y, y.canTake(400, 399), 0);
        CHECK.told("396 up to 399", y, y.canTake(396, 399), 1);
    }

    /** NEEDS of all whose DUES are no later: those with the same DUE count. */
    static void promise32_likeDues() {
        FrameRound x = Check.planned(SLOW);
        x.take(1, 20);
        CHECK.told("one more", x, x.canTake(1, 20), 1);
        CHECK.told("two more", x, x.canTake(2, 20), 0);
        x.take(1, 20);
        CHECK.told("none more", x, x.canTake(1, 20), 0);
        CHECK.told("nor ahead of them", x, x.canTake(1, 19), 0);
        CHECK.told("nor just behind", x, x.canTake(1, 29), 0);
        CHECK.told("but a FRAME later", x, x.canTake(1, 30), 1);
    }

    /** All WAITING must be IN TIME with it, those with later DUES too. */
    static void promise32_theOthers() {
        FrameRound x = Check.planned(SLOW);
        x.take(3, 30);
        CHECK.told("ahead of it", x, x.canTake(1, 10), 0);
        CHECK.told("just ahead of it", x, x.canTake(1, 29), 0);
        CHECK.told("behind it", x, x.canTake(1, 39), 0);
        CHECK.told("a FRAME behind it", x, x.canTake(1, 40), 1);
        FrameRound y = Check.planned(SLOW);
        y.take(2, 30);
        CHECK.told("there is one left", y, y.canTake(1, 10), 1);
        CHECK.told("not two", y, y.canTake(2, 20), 0);
    }

    static void promise32_howeverManyAreWaiting() {
        FrameRound x = eightWaiting();
        CHECK.told("32 more", x, x.canTake(32, 400), 1);
        CHECK.told("33 more", x, x.canTake(33, 400), 0);
        CHECK.told("eight still", x, x.clock(3), 8);
    }

    static void promise32_behindTheSwitch() {
        FrameRound x = Check.planned(PLAN);
        x.run(1);
        x.change(1);
        CHECK.told("2 up to the SWITCH", x, x.canTake(2, 10), 1);
        CHECK.told("3 up to 13", x, x.canTake(3, 13), 0);
        CHECK.told("3 up to 14", x, x.canTake(3, 14), 1);
        CHECK.told("4 up to 17", x, x.canTake(4, 17), 0);
        CHECK.told("4 up to 18", x, x.canTake(4, 18), 1);
        CHECK.told("100 up to 405", x, x.canTake(100, 405), 1);
        CHECK.told("101 up to 405", x, x.canTake(101, 405), 0);
    }

    static void promise33_numbers() {
        withoutPlanOrTable(x -> x.take(1, 10));
        withoutPlanOrTable(x -> x.take(0, 0));
        FrameRound x = Check.planned(FREE);
        int[][] wrong = {{0, 4}, {401, 400}, {1, 0}, {1, 401}, {0, 0}, {401, 401}};
        for (int[] w : wrong) {
            CHECK.refused("NEED " + w[0] + " DUE " + w[1], x, x.take(w[0], w[1]), 2);
        }
        for (int far : FAR) {
            CHECK.refused("NEED " + far, x, x.take(far, 10), 2);
            CHECK.refused("DUE " + far, x, x.take(1, far), 2);
        }
        CHECK.refused("the least DUE", x, x.take(1, 1), 5);
        CHECK.told("none was TAKEN", x, x.clock(3), 0);
        CHECK.told("the greatest", x, x.take(400, 400), 0);
        CHECK.refused("one more", x, x.take(1, 400), 5);
        CHECK.told("one is", x, x.clock(3), 1);
    }

    static void promise33_laterThanNow() {
        FrameRound x = Check.planned(SLOW);
        x.run(2);
        CHECK.refused("NOW", x, x.take(1, 20), 2);
        CHECK.refused("1 later", x, x.take(1, 21), 5);
        CHECK.refused("401 later", x, x.take(1, 421), 2);
        CHECK.told("400 later", x, x.take(40, 420), 0);
        CHECK.told("its DUE", x, x.waiting(0, 1), 420);
    }

    /** 8 are WAITING: no room, be it IN TIME or not; but a wrong number is told first. */
    static void promise33_noRoom() {
        FrameRound x = eightWaiting();
        CHECK.refused("it could be", x, x.take(1, 400), 3);
        CHECK.refused("it could not be: 3 ahead of 5", x, x.take(400, 400), 3);
        CHECK.refused("2 ahead of 3", x, x.take(0, 400), 2);
        CHECK.refused("2 ahead of 3", x, x.take(1, 401), 2);
        CHECK.told("eight still", x, x.clock(3), 8);
        for (int i = 0; i < 8; i++) {
            CHECK.told("as they were", x, x.waiting(i, 0), 1);
        }
        x.step(0);
        CHECK.told("the eighth again", x, x.take(1, 400), 7);
        CHECK.refused("no more", x, x.take(1, 400), 3);
    }

    static void promise33_sevenAreNotEight() {
        FrameRound x = Check.planned(SLOW);
        for (int i = 0; i < 7; i++) {
            x.take(1, 400);
        }
        CHECK.refused("not IN TIME", x, x.take(34, 400), 5);
        CHECK.told("just", x, x.take(33, 400), 7);
        CHECK.refused("no room now", x, x.take(1, 400), 3);
    }

    /** In order of DUES, of like ones as they were TAKEN. */
    static void promise33_places() {
        FrameRound x = Check.planned(FREE);
        CHECK.told("the first", x, x.take(1, 100), 0);
        CHECK.told("behind its like", x, x.take(2, 100), 1);
        CHECK.told("one later", x, x.take(3, 101), 2);
        CHECK.told("one earlier", x, x.take(4, 99), 0);
        CHECK.told("behind its likes", x, x.take(5, 100), 3);
        CHECK.told("behind its like", x, x.take(6, 99), 1);
        int[] need = {4, 6, 1, 2, 5, 3};
        int[] due = {99, 99, 100, 100, 100, 101};
        for (int i = 0; i < need.length; i++) {
            CHECK.told("NEED " + i, x, x.waiting(i, 0), need[i]);
            CHECK.told("DUE " + i, x, x.waiting(i, 1), due[i]);
        }
    }

    static void promise33_refusedBy5NoneIsTaken() {
        FrameRound x = Check.planned(SLOW);
        x.take(3, 30);
        CHECK.refused("not IN TIME", x, x.take(1, 30), 5);
        CHECK.refused("another isn't", x, x.take(1, 10), 5);
        CHECK.told("one", x, x.clock(3), 1);
        CHECK.told("its NEED", x, x.waiting(0, 0), 3);
        CHECK.told("its DUE", x, x.waiting(0, 1), 30);
    }

    // ---- promise 34

    static void promise34_numbers() {
        withoutPlanOrTable(x -> x.soonest(1));
        withoutPlanOrTable(x -> x.soonest(0));
        FrameRound x = Check.planned(FREE);
        CHECK.told("the least", x, x.soonest(1), 4);
        CHECK.told("the greatest", x, x.soonest(400), 400);
        CHECK.refused("0", x, x.soonest(0), 2);
        CHECK.refused("401", x, x.soonest(401), 2);
        for (int far : FAR) {
            CHECK.refused("NEED " + far, x, x.soonest(far), 2);
        }
    }

    static void promise34_theLastAndNone() {
        FrameRound x = Check.planned(SLOW);
        CHECK.told("40 by 400", x, x.soonest(40), 400);
        CHECK.told("41", x, x.soonest(41), -2);
        CHECK.told("400", x, x.soonest(400), -2);
        x.run(1);
        CHECK.told("40 by 410", x, x.soonest(40), 410);
        CHECK.told("41", x, x.soonest(41), -2);
        CHECK.told("1 later than NOW at the least", x, x.soonest(1), 20);
        FrameRound y = Check.planned(Check.mode(4, 0) + Check.task(0, 4, 4, 4));
        CHECK.told("no SLACK", y, y.soonest(1), -2);
    }

    /** The least such DUE: one less and it can't be. */
    static void promise34_theLeast() {
        FrameRound x = Check.planned(PLAN);
        x.run(3);
        int[] due = {0, 20, 20, 20, 20, 30, 30, 35, 35, 35, 35, 40};
        for (int need = 1; need < due.length; need++) {
            CHECK.told("NEED " + need, x, x.soonest(need), due[need]);
            CHECK.told("it can be", x, x.canTake(need, due[need]), 1);
            CHECK.told("not one less", x, x.canTake(need, due[need] - 1), 0);
        }
    }

    static void promise34_howeverManyAreWaiting() {
        FrameRound x = eightWaiting();
        CHECK.told("ahead of them", x, x.soonest(1), 10);
        CHECK.told("all that is left", x, x.soonest(32), 320);
        CHECK.told("one more", x, x.soonest(33), -2);
    }

    static void promise34_besideOthers() {
        FrameRound x = Check.planned(SLOW);
        x.take(2, 30);
        CHECK.told("one ahead of it", x, x.soonest(1), 10);
        CHECK.told("two: behind it", x, x.soonest(2), 40);
        x.take(1, 30);
        CHECK.told("one: behind them", x, x.soonest(1), 40);
    }

    static void promise34_behindTheSwitch() {
        FrameRound x = Check.planned(PLAN);
        x.run(1);
        x.change(1);
        CHECK.told("at it", x, x.soonest(2), 10);
        CHECK.told("behind it", x, x.soonest(3), 14);
        CHECK.told("the last", x, x.soonest(100), 402);
        CHECK.told("none", x, x.soonest(101), -2);
    }

    // ---- promise 35

    static void promise35_numbers() {
        withoutPlanOrTable(x -> x.greatest(10));
        withoutPlanOrTable(x -> x.greatest(0));
        FrameRound x = Check.planned(FREE);
        CHECK.told("the least DUE", x, x.greatest(1), 0);
        CHECK.told("the greatest", x, x.greatest(400), 400);
        CHECK.refused("NOW", x, x.greatest(0), 2);
        CHECK.refused("401", x, x.greatest(401), 2);
        for (int far : FAR) {
            CHECK.refused("DUE " + far, x, x.greatest(far), 2);
        }
        x.run(1);
        CHECK.refused("NOW", x, x.greatest(4), 2);
        CHECK.told("1 later", x, x.greatest(5), 0);
        CHECK.told("400 later", x, x.greatest(404), 400);
        CHECK.refused("401 later", x, x.greatest(405), 2);
    }

    static void promise35_noneByNone() {
        FrameRound x = Check.planned(SLOW);
        CHECK.told("up to 9", x, x.greatest(9), 0);
        CHECK.told("up to 10", x, x.greatest(10), 1);
        CHECK.told("up to 19", x, x.greatest(19), 1);
        CHECK.told("up to 400", x, x.greatest(400), 40);
        x.take(40, 400);
        CHECK.told("all are needed", x, x.greatest(400), 0);
        CHECK.told("ahead of it too", x, x.greatest(10), 0);
        FrameRound y = eightWaiting();
        CHECK.told("however many", y, y.greatest(400), 32);
        CHECK.told("ahead of them", y, y.greatest(399), 32);
        CHECK.told("up to 320", y, y.greatest(320), 32);
        CHECK.told("up to 319", y, y.greatest(319), 31);
    }

    static void promise35_behindTheSwitch() {
        FrameRound x = Check.planned(PLAN);
        x.run(1);
        x.change(1);
        int[][] due = {{9, 0}, {10, 2}, {13, 2}, {14, 3}, {17, 3}, {18, 4}, {405, 100}};
        for (int[] d : due) {
            CHECK.told("up to " + d[0], x, x.greatest(d[0]), d[1]);
        }
    }

    // ---- promise 36

    static void promise36_numbers() {
        withoutPlanOrTable(x -> x.spare());
    }

    /** The most by which the SLACK, all of it at most, can be less and all are IN TIME. */
    static void promise36_noneAndAll() {
        FrameRound x = Check.planned(TEN);
        CHECK.told("all", x, x.spare(), 10);
        x.take(1, 400);
        CHECK.told("all, for it can wait", x, x.spare(), 10);
        x.take(15, 20);
        CHECK.told("5", x, x.spare(), 5);
        x.take(4, 19);
        CHECK.told("1: 19 of 20", x, x.spare(), 1);
        x.take(1, 10);
        CHECK.told("none", x, x.spare(), 0);
        FrameRound y = Check.planned(PLAN);
        CHECK.told("no SLACK", y, y.spare(), 0);
        FrameRound z = Check.planned(Check.mode(60, 0));
        CHECK.told("the most", z, z.spare(), 60);
    }

    /** One that ends by the FRAME ahead alone. */
    static void promise36_dueAtItsEnd() {
        FrameRound x = Check.planned(TEN);
        x.take(9, 10);
        CHECK.told("1", x, x.spare(), 1);
        x.take(1, 19);
        CHECK.told("none, for 19 is as 10", x, x.spare(), 0);
    }

    static void promise36_byTheSwitch() {
        FrameRound x = Check.planned(PLAN);
        x.run(1);
        x.change(1);
        x.take(3, 18);
        CHECK.told("4 up to 18, 3 are needed", x, x.spare(), 1);
        x.take(1, 18);
        CHECK.told("all 4 are", x, x.spare(), 0);
    }

    // ---- promise 37

    static void promise37_numbers() {
        withoutPlanOrTable(x -> x.step(0));
        withoutPlanOrTable(x -> x.step(100));
        FrameRound x = Check.planned(Check.mode(60, 0));
        CHECK.refused("100", x, x.step(100), 2);
        for (int far : FAR) {
            CHECK.refused("OVERRUN " + far, x, x.step(far), 2);
        }
        clock("refused: as it was", x, 0, 0, 0, 0, 0, 0, 0, -2, -2, -2);
        CHECK.told("the least", x, x.step(0), 0);
        clock("none", x, 60, 0, 0, 0, 0, 0, 0, -2, -2, -2);
        CHECK.told("the greatest", x, x.step(99), 60);
        clock("39 are CUT OFF", x, 120, 0, 0, 0, 0, 60, 39, -2, -2, -2);
    }

    /** As much as it asks for, but no more than is SPARE; the rest is CUT OFF. */
    static void promise37_justWhatIsSpare() {
        FrameRound x = Check.planned(TEN);
        CHECK.told("one less", x, x.step(9), 9);
        clock("none CUT OFF", x, 10, 0, 0, 0, 0, 9, 0, -2, -2, -2);
        CHECK.told("just", x, x.step(10), 10);
        clock("none CUT OFF", x, 20, 0, 0, 0, 0, 19, 0, -2, -2, -2);
        CHECK.told("one more", x, x.step(11), 10);
        clock("one CUT OFF", x, 30, 0, 0, 0, 0, 29, 1, -2, -2, -2);
        FrameRound y = Check.planned(PLAN);
        CHECK.told("without SLACK", y, y.step(1), 0);
        clock("all CUT OFF", y, 5, 0, 1, 0, 0, 0, 1, -2, -2, -2);
    }

    /** What is left of the SLACK goes to those WAITING, in order, to each no more than its NEED. */
    static void promise37_whatIsLeft() {
        FrameRound x = Check.planned(TEN);
        x.take(4, 20);
        x.take(6, 30);
        x.take(1, 40);
        CHECK.told("OVERRUN of 1", x, x.step(1), 1);
        CHECK.told("one DONE", x, x.clock(4), 1);
        CHECK.told("two WAITING", x, x.clock(3), 2);
        CHECK.told("5 of 6 were had", x, x.waiting(0, 0), 1);
        CHECK.told("none of the next", x, x.waiting(1, 0), 1);
        CHECK.told("none", x, x.step(0), 0);
        clock("all DONE", x, 20, 0, 0, 0, 3, 1, 0, -2, -2, 10);
    }

    /** 10 for 4 and 6: both are DONE; 9: one UNIT is missing. */
    static void promise37_whoNeedsNothingMoreIsDone() {
        FrameRound x = Check.planned(TEN);
        x.take(4, 20);
        x.take(6, 20);
        x.keep();
        x.step(0);
        clock("just", x, 10, 0, 0, 0, 2, 0, 0, -2, -2, 10);
        x.back();
        x.step(1);
        clock("one missing", x, 10, 0, 0, 1, 1, 1, 0, -2, -2, 10);
        CHECK.told("it", x, x.waiting(0, 0), 1);
    }

    static void promise37_noneIsEverLate() {
        FrameRound x = Check.planned(TEN);
        x.take(10, 10);
        x.take(4, 20);
        CHECK.told("nothing is SPARE", x, x.step(99), 0);
        clock("CUT OFF", x, 10, 0, 0, 1, 1, 0, 99, -2, -2, 0);
        CHECK.told("6 are", x, x.step(99), 6);
        clock("all in time", x, 20, 0, 0, 0, 2, 6, 192, -2, -2, 0);
    }

    /** The SWITCH is done with the STEP that ends at its time, not one later. */
    static void promise37_theSwitch() {
        FrameRound x = Check.planned(Check.mode(5, 0) + Check.task(0, 20, 11, 20) + ";" + ONE);
        x.run(1);
        CHECK.told("two FRAMES on", x, x.change(1), 15);
        x.step(0);
        clock("not yet", x, 10, 0, 2, 0, 0, 0, 0, 1, 15, -2);
        x.step(0);
        clock("now", x, 15, 1, 0, 0, 0, 0, 0, -2, -2, -2);
        x.step(0);
        clock("in that mode", x, 19, 1, 0, 0, 0, 0, 0, -2, -2, -2);
    }

    // ---- promise 38

    static void promise38_numbers() {
        withoutPlanOrTable(x -> x.run(1));
        withoutPlanOrTable(x -> x.run(0));
        FrameRound x = Check.planned(SLOW);
        CHECK.refused("0", x, x.run(0), 2);
        CHECK.refused("101", x, x.run(101), 2);
        for (int far : FAR) {
            CHECK.refused("n " + far, x, x.run(far), 2);
        }
        clock("refused: as it was", x, 0, 0, 0, 0, 0, 0, 0, -2, -2, -2);
        CHECK.told("1", x, x.run(1), 0);
        CHECK.told("NOW", x, x.clock(0), 10);
        CHECK.told("100", x, x.run(100), 0);
        CHECK.told("NOW", x, x.clock(0), 1010);
    }

    /** By them, not by all since it began. */
    static void promise38_howManyAreDone() {
        FrameRound x = eightWaiting();
        CHECK.told("3", x, x.run(3), 3);
        CHECK.told("4", x, x.run(4), 4);
        CHECK.told("1", x, x.run(9), 1);
        CHECK.told("none", x, x.run(100), 0);
        CHECK.told("all", x, x.clock(4), 8);
    }

    static void promise38_overTheSwitch() {
        FrameRound x = Check.planned(PLAN);
        x.run(1);
        x.change(1);
        CHECK.told("2 ahead of it, 1 behind", x, x.take(3, 14), 0);
        CHECK.told("one DONE behind it", x, x.run(2), 1);
        clock("behind it", x, 14, 1, 0, 0, 1, 0, 0, -2, -2, 0);
    }

    /** The most that a run can be: 100 STEPS over and over, with FRAMES of 60. */
    static void promise38_far() {
        FrameRound x = Check.planned(Check.mode(60, 0));
        for (int n = 0; n < 500; n++) {
            x.run(100);
        }
        CHECK.told("NOW", x, x.clock(0), 3000000);
        CHECK.told("400 later", x, x.take(360, 3000400), 0);
        CHECK.refused("401 later", x, x.take(1, 3000401), 2);
        CHECK.told("when", x, x.waiting(0, 2), 3000360);
    }
}
