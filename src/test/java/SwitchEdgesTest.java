/** Boundary cases of promises 39 to 42 and of Terms IV: SAFE ENDS, a SWITCH, what is kept. */
public final class SwitchEdgesTest {
    private static final Check CHECK = new Check("SwitchEdgesTest");
    private static final int[] FAR = {-1, Integer.MIN_VALUE, Integer.MAX_VALUE};
    /** SLACKS 0, 2, 4, 4 by FRAMES of 5; its JOB is OPEN at the beginning of FRAME 1. */
    private static final String ZERO = Check.mode(5, 1) + Check.task(0, 20, 6, 20);
    /** SLACK 1 by FRAMES of 4. */
    private static final String ONE = Check.mode(4, 3);
    /** No TABLE. */
    private static final String TWO = Check.mode(7, 0) + Check.task(0, 20, 1, 20);
    private static final String PLAN = ZERO + ";" + ONE + ";" + TWO;
    /** No SLACK. */
    private static final String FULL = Check.mode(4, 0) + Check.task(0, 4, 4, 4);
    /** SLACK 10 by FRAMES of 10. */
    private static final String TEN = Check.mode(10, 0);

    public static void main(String[] args) {
        CHECK.runAll(SwitchEdgesTest.class);
        CHECK.end();
    }

    private interface ByMode {
        int of(FrameRound x, int m);
    }

    private static void clock(String what, FrameRound x, int... due) {
        for (int i = 0; i < due.length; i++) {
            CHECK.told(what + " clock " + i, x, x.clock(i), due[i]);
        }
    }

    /** 1 (m); 5 (that one has no TABLE, THE CLOCK's has none, a SWITCH is to come). */
    private static void refusals(ByMode call) {
        FrameRound none = new FrameRound();
        CHECK.refused("without a PLAN", none, call.of(none, 0), 1);
        FrameRound x = Check.planned(PLAN);
        CHECK.refused("the next mode", x, call.of(x, 3), 1);
        for (int m : FAR) {
            CHECK.refused("mode " + m, x, call.of(x, m), 1);
        }
        CHECK.refused("that one has no TABLE", x, call.of(x, 2), 5);
        x.run(1);
        x.change(1);
        CHECK.refused("a SWITCH is to come", x, call.of(x, 1), 5);
        CHECK.refused("a SWITCH is to come", x, call.of(x, 0), 5);
        CHECK.refused("both", x, call.of(x, 2), 5);
        CHECK.refused("1 ahead of 5", x, call.of(x, 3), 1);
        clock("as it was", x, 5, 0, 1, 0, 0, 0, 0, 1, 10, -2);
        x.step(0);
        CHECK.told("it was done", x, call.of(x, 1), 10);
        FrameRound y = Check.planned(TWO + ";" + ONE);
        CHECK.refused("THE CLOCK's has none", y, call.of(y, 1), 5);
        CHECK.refused("neither has one", y, call.of(y, 0), 5);
        CHECK.refused("1 ahead of 5", y, call.of(y, 2), 1);
        clock("as it was", y, 0, 0, 0, 0, 0, 0, 0, -2, -2, -2);
    }

    // ---- promise 39

    static void promise39_numbers() {
        refusals((x, m) -> x.safeEnd(m));
    }

    /** NOW at the earliest; up to which no JOB is OPEN; behind the ROUND none is. */
    static void promise39_open() {
        FrameRound x = Check.planned(PLAN);
        int[] due = {0, 10, 10, 15, 20, 30, 30, 35, 40};
        for (int n = 0; n < due.length; n++) {
            CHECK.told("in FRAME " + n, x, x.safeEnd(1), due[n]);
            CHECK.told("the same mode in FRAME " + n, x, x.safeEnd(0), due[n]);
            x.step(0);
        }
    }

    /** Released at its beginning a JOB isn't OPEN there; released one ahead of it, it is. */
    static void promise39_released() {
        FrameRound x = Check.planned(Check.mode(5, 0) + Check.task(5, 20, 1, 15) + ";" + ONE);
        x.run(1);
        CHECK.told("at it", x, x.safeEnd(1), 5);
        FrameRound y = Check.planned(Check.mode(5, 0) + Check.task(4, 20, 1, 16) + ";" + ONE);
        CHECK.told("not yet", y, y.safeEnd(1), 0);
        y.run(1);
        CHECK.told("one ahead of it", y, y.safeEnd(1), 10);
        y.run(1);
        CHECK.told("done", y, y.safeEnd(1), 10);
    }

    /** OPEN up to the end of the ROUND: there, and not earlier. */
    static void promise39_theEndOfTheRound() {
        FrameRound x = Check.planned(Check.mode(5, 0) + Check.task(0, 20, 16, 20) + ";" + ONE);
        CHECK.told("its beginning", x, x.safeEnd(1), 0);
        for (int n = 1; n <= 4; n++) {
            x.step(0);
            CHECK.told("its end", x, x.safeEnd(1), 20);
        }
        x.step(0);
        CHECK.told("the next one's", x, x.safeEnd(1), 40);
    }

    /** All WAITING are IN TIME, if from there on FRAMES are those of that mode. */
    static void promise39_inTime() {
        FrameRound x = Check.planned(PLAN);
        x.run(2);
        x.take(1, 15);
        CHECK.told("1 up to 14", x, x.safeEnd(1), 10);
        CHECK.told("from FRAME 0 on none up to 15", x, x.safeEnd(0), 15);
        x.take(1, 15);
        CHECK.told("not 2", x, x.safeEnd(1), 15);
        x.take(2, 18);
        CHECK.told("all 4 in FRAME 2", x, x.safeEnd(1), 15);
        x.take(1, 20);
        CHECK.told("1 from 15 up to 19", x, x.safeEnd(1), 15);
        x.take(1, 20);
        CHECK.told("not 2", x, x.safeEnd(1), 20);
    }

    /** Another mode that is faster: what is WAITING doesn't hold it up. */
    static void promise39_faster() {
        FrameRound x = Check.planned(ONE + ";" + TEN);
        x.take(4, 20);
        CHECK.told("at once", x, x.safeEnd(1), 0);
        x.take(1, 4);
        CHECK.told("behind the one that can't wait for 10", x, x.safeEnd(1), 4);
    }

    /** 400 UNITS by 400, and no SLACK in the other mode: not earlier than that, and not later. */
    static void promise39_far() {
        FrameRound x = Check.planned(TEN + ";" + FULL);
        x.take(390, 400);
        CHECK.told("39 FRAMES", x, x.safeEnd(1), 390);
        x.take(1, 400);
        CHECK.told("40 FRAMES", x, x.safeEnd(1), 400);
        x.run(1);
        x.take(9, 410);
        CHECK.told("40 FRAMES still", x, x.safeEnd(1), 400);
        x.take(1, 410);
        CHECK.told("41 FRAMES", x, x.safeEnd(1), 410);
    }

    /** All are DONE by 390, but the JOB from 1 on is OPEN at 390: the ROUND's end is 420. */
    static void promise39_farther() {
        FrameRound x = Check.planned(Check.mode(30, 0) + Check.task(1, 60, 1, 59) + ";" + FULL);
        CHECK.told("all up to 390", x, x.take(384, 390), 0);
        CHECK.told("more than 400 later", x, x.safeEnd(1), 420);
        CHECK.told("so it is", x, x.change(1), 420);
        CHECK.told("14 FRAMES", x, x.run(14), 1);
        clock("there", x, 420, 1, 0, 0, 1, 0, 0, -2, -2, 0);
    }

    /** SLACKS 5, 0, 0, 3; its JOB is OPEN at FRAMES 2 and 3 of each ROUND; the other mode has no SLACK. */
    static void promise39_laterRounds() {
        int[] need = {5, 6, 8, 9, 13, 14, 16, 17, 21, 22, 24, 25};
        int[] due = {5, 20, 20, 25, 25, 40, 40, 45, 45, 60, 60, 65};
        for (int i = 0; i < need.length; i++) {
            FrameRound x = Check.planned(Check.mode(5, 0) + Check.task(5, 20, 12, 15) + ";" + FULL);
            x.take(need[i], 400);
            CHECK.told("behind " + need[i], x, x.safeEnd(1), due[i]);
        }
    }

    /** From NOW on: a FRAME of the other mode that ends just at a DUE counts. */
    static void promise39_justAtADue() {
        FrameRound x = Check.planned(TEN + ";" + Check.mode(20, 10));
        x.take(10, 20);
        CHECK.told("at once", x, x.safeEnd(1), 0);
        x.take(1, 20);
        CHECK.told("one too many for that", x, x.safeEnd(1), 20);
        FrameRound y = Check.planned(TEN + ";" + Check.mode(20, 10));
        y.take(9, 19);
        CHECK.told("one too early for that", y, y.safeEnd(1), 10);
    }

    static void promise39_changesNothing() {
        FrameRound x = Check.planned(PLAN);
        CHECK.told("at once", x, x.safeEnd(1), 0);
        clock("as it was", x, 0, 0, 0, 0, 0, 0, 0, -2, -2, -2);
        x.run(1);
        CHECK.told("later", x, x.safeEnd(1), 10);
        clock("as it was", x, 5, 0, 1, 0, 0, 0, 0, -2, -2, -2);
    }

    // ---- promise 40

    static void promise40_numbers() {
        refusals((x, m) -> x.change(m));
    }

    static void promise40_atOnce() {
        FrameRound x = Check.planned(PLAN);
        CHECK.told("at once", x, x.change(1), 0);
        clock("there, with none to come", x, 0, 1, 0, 0, 0, 0, 0, -2, -2, -2);
        CHECK.told("and back", x, x.change(0), 0);
        x.run(2);
        CHECK.told("the same mode", x, x.change(0), 10);
        clock("from FRAME 0", x, 10, 0, 0, 0, 0, 0, 0, -2, -2, -2);
        CHECK.told("no SLACK there", x, x.spare(), 0);
    }

    static void promise40_later() {
        FrameRound x = Check.planned(PLAN);
        x.run(1);
        CHECK.told("later", x, x.change(1), 10);
        clock("to come", x, 5, 0, 1, 0, 0, 0, 0, 1, 10, -2);
        x.step(0);
        clock("done", x, 10, 1, 0, 0, 0, 0, 0, -2, -2, -2);
        CHECK.told("another", x, x.change(0), 10);
        clock("at once", x, 10, 0, 0, 0, 0, 0, 0, -2, -2, -2);
    }

    static void promise40_toTheSameModeLater() {
        FrameRound x = Check.planned(PLAN);
        x.run(1);
        CHECK.told("later", x, x.change(0), 10);
        clock("to come", x, 5, 0, 1, 0, 0, 0, 0, 0, 10, -2);
        x.step(0);
        clock("FRAME 0", x, 10, 0, 0, 0, 0, 0, 0, -2, -2, -2);
    }

    /** What is WAITING, what was counted and what is kept stay as they are. */
    static void promise40_theRestStays() {
        FrameRound x = Check.planned(PLAN);
        x.run(2);
        x.take(1, 15);
        x.take(2, 300);
        x.keep();
        x.step(9);
        x.take(1, 400);
        CHECK.told("at once", x, x.change(1), 15);
        clock("counted", x, 15, 1, 0, 2, 1, 3, 6, -2, -2, 0);
        CHECK.told("NEED", x, x.waiting(0, 0), 2);
        CHECK.told("DUE", x, x.waiting(1, 1), 400);
        CHECK.due("kept", x.size(4), 1);
        CHECK.due("back", x.back(), true);
        clock("as it was kept", x, 10, 0, 2, 2, 0, 0, 0, -2, -2, -2);
    }

    /** All WAITING are IN TIME behind it, and one can be TAKEN by what is there. */
    static void promise40_inTime() {
        FrameRound x = Check.planned(PLAN);
        x.run(2);
        x.take(4, 15);
        x.take(2, 20);
        CHECK.told("not at 15, where 1 is left up to 19", x, x.change(1), 20);
        CHECK.told("all DONE", x, x.run(2), 2);
        clock("just", x, 20, 1, 0, 0, 2, 0, 0, -2, -2, 0);
    }

    // ---- promises 41, 42

    static void promise41_withoutAPlan() {
        FrameRound x = new FrameRound();
        x.plan(1);
        CHECK.due("keep", x.keep(), false);
        CHECK.due("trouble", x.trouble(), 1);
        CHECK.due("not kept", x.size(4), 0);
        Check.plan(x, "?");
        CHECK.due("still no PLAN", x.keep(), false);
        CHECK.due("trouble", x.trouble(), 1);
        CHECK.due("back", x.back(), false);
        CHECK.due("trouble", x.trouble(), 1);
    }

    static void promise41_withoutATable() {
        FrameRound x = Check.planned(TWO);
        x.mode(9, 0);
        CHECK.due("keep", x.keep(), true);
        CHECK.due("trouble", x.trouble(), 0);
        CHECK.due("kept", x.size(4), 1);
        x.mode(9, 0);
        CHECK.due("back", x.back(), true);
        CHECK.due("trouble", x.trouble(), 0);
    }

    /** With all that is WAITING, counted, to come. */
    static void promise41_allOfIt() {
        FrameRound x = Check.planned(PLAN);
        x.take(1, 10);
        x.run(1);
        x.step(9);
        x.run(2);
        x.run(1);
        x.take(3, 40);
        x.take(2, 300);
        x.change(1);
        int[] due = {25, 0, 1, 2, 1, 1, 8, 1, 30, 0};
        clock("ahead of it", x, due);
        CHECK.due("keep", x.keep(), true);
        clock("by it", x, due);
        x.run(7);
        x.step(5);
        x.take(1, 400);
        CHECK.due("back", x.back(), true);
        clock("back", x, due);
        int[][] waiting = {{3, 40, 34}, {2, 300, 42}};
        for (int i = 0; i < 2; i++) {
            for (int what = 0; what < 3; what++) {
                CHECK.told("waiting " + i + " " + what, x, x.waiting(i, what), waiting[i][what]);
            }
        }
        CHECK.refused("no third", x, x.waiting(2, 0), 1);
    }

    /** What goes on with THE CLOCK doesn't touch what is kept, of those WAITING neither. */
    static void promise41_itIsApart() {
        FrameRound x = Check.planned(TEN);
        for (int i = 0; i < 8; i++) {
            x.take(1 + i, 400 - 10 * i);
        }
        x.keep();
        x.run(2);
        x.take(9, 30);
        x.run(2);
        x.back();
        for (int i = 0; i < 8; i++) {
            CHECK.told("NEED " + i, x, x.waiting(i, 0), 8 - i);
            CHECK.told("DUE " + i, x, x.waiting(i, 1), 330 + 10 * i);
        }
        x.run(1);
        x.back();
        CHECK.told("NOW", x, x.clock(0), 0);
        CHECK.told("the first", x, x.waiting(0, 0), 8);
    }

    static void promise41_whatWasKeptBeforeIsNoMore() {
        FrameRound x = Check.planned(TEN);
        x.take(1, 400);
        x.keep();
        x.run(1);
        x.keep();
        x.run(1);
        x.back();
        CHECK.told("the second", x, x.clock(0), 10);
        CHECK.told("none WAITING", x, x.clock(3), 0);
        x.back();
        CHECK.told("the second", x, x.clock(0), 10);
    }

    static void promise42_nothingIsKept() {
        FrameRound x = Check.planned(TEN);
        x.run(1);
        CHECK.due("back", x.back(), false);
        CHECK.due("trouble", x.trouble(), 1);
        CHECK.told("NOW stays", x, x.clock(0), 10);
    }

    static void promise42_itStaysKept() {
        FrameRound x = Check.planned(TEN);
        x.keep();
        for (int n = 0; n < 3; n++) {
            x.run(1);
            CHECK.due("back", x.back(), true);
            CHECK.told("NOW", x, x.clock(0), 0);
            CHECK.due("kept", x.size(4), 1);
        }
    }

    private interface Act {
        void on(FrameRound x);
    }

    private static void kept(String what, Act act, boolean due) {
        FrameRound x = Check.planned(ZERO + ";" + ONE);
        x.keep();
        x.run(1);
        act.on(x);
        CHECK.due(what + ": size", x.size(4), due ? 1 : 0);
        CHECK.due(what + ": back", x.back(), due);
        CHECK.due(what + ": trouble", x.trouble(), due ? 0 : 1);
    }

    static void promise42_sinceTheLatestPlanOrChange() {
        kept("a PLAN", x -> Check.plan(x, TEN), false);
        kept("the same PLAN", x -> Check.plan(x, ZERO + ";" + ONE), false);
        kept("recost", x -> x.recost(0, 0, 5), false);
        kept("recost to the same", x -> x.recost(0, 0, 6), false);
        kept("reframe", x -> x.reframe(1, 5), false);
        kept("reframe to the same", x -> x.reframe(1, 4), false);
        kept("reserve", x -> x.reserve(0, 0), false);
        kept("reserve to the same", x -> x.reserve(0, 1), false);
    }

    static void promise42_refusedOnesAndASwitchLeaveIt() {
        kept("plan refused by 2", x -> x.plan(99), true);
        kept("plan refused by 4", x -> Check.plan(x, "?"), true);
        kept("recost refused by 1", x -> x.recost(0, 1, 5), true);
        kept("recost refused by 2", x -> x.recost(0, 0, 61), true);
        kept("reframe refused by 1", x -> x.reframe(2, 5), true);
        kept("reframe refused by 2", x -> x.reframe(0, 61), true);
        kept("reserve refused by 1", x -> x.reserve(2, 0), true);
        kept("reserve refused by 2", x -> x.reserve(0, 5), true);
        kept("a SWITCH to come", x -> x.change(1), true);
        kept("a SWITCH refused", x -> x.change(2), true);
    }

    /** What is ahead follows THE CLOCK, whatever was asked in between. */
    static void promise42_withASwitchToCome() {
        FrameRound x = Check.planned(PLAN);
        x.run(1);
        x.change(1);
        x.keep();
        x.run(1);
        CHECK.told("asked in between", x, x.safeEnd(0), 10);
        x.back();
        CHECK.told("behind the SWITCH", x, x.greatest(22), 5);
        x.run(1);
        x.safeEnd(0);
        x.back();
        CHECK.told("behind the SWITCH", x, x.soonest(5), 22);
        x.run(1);
        x.safeEnd(0);
        x.back();
        CHECK.told("behind the SWITCH", x, x.canTake(6, 22), 0);
        x.run(1);
        x.safeEnd(0);
        x.back();
        CHECK.told("behind the SWITCH", x, x.take(5, 22), 0);
        CHECK.told("none is SPARE", x, x.spare(), 0);
    }

    /** Kept in one mode, gone to another. */
    static void promise42_overASwitch() {
        FrameRound x = Check.planned(PLAN);
        x.keep();
        x.change(1);
        x.run(3);
        x.back();
        clock("mode 0", x, 0, 0, 0, 0, 0, 0, 0, -2, -2, -2);
        CHECK.told("its SLACK", x, x.ahead(1, 3), 2);
        x.change(1);
        x.keep();
        x.change(0);
        x.back();
        clock("mode 1", x, 0, 1, 0, 0, 0, 0, 0, -2, -2, -2);
        CHECK.told("its SLACK", x, x.greatest(4), 1);
    }
}
