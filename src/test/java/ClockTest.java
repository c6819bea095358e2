/** Promises 29 to 42: the clock. */
public final class ClockTest {
    private static final Check CHECK = new Check("ClockTest");
    /** SLACKS 0, 2, 4, 4 by FRAMES of 5; its JOB is OPEN at the beginning of FRAME 1. */
    private static final String ZERO = Check.mode(5, 1) + Check.task(0, 20, 6, 20);
    /** SLACK 1 by FRAMES of 4. */
    private static final String ONE = Check.mode(4, 3);
    /** No TABLE. */
    private static final String TWO = Check.mode(7, 0) + Check.task(0, 20, 1, 20);
    private static final String PLAN = ZERO + ";" + ONE + ";" + TWO;

    public static void main(String[] args) {
        begins();
        ahead();
        takenAndDone();
        order();
        eight();
        canTake();
        soonestAndGreatest();
        spare();
        stepAndRun();
        safeEnds();
        safeEndsWithWaiting();
        switching();
        switchedAhead();
        switchedRounds();
        switchedBack();
        leastTime();
        keepAndBack();
        withoutPlan();
        withoutTable();
        numbers();
        CHECK.end();
    }

    private static void clock(String what, FrameRound x, int... due) {
        for (int i = 0; i < due.length; i++) {
            CHECK.told("29 " + what + " clock " + i, x, x.clock(i), due[i]);
        }
    }

    private static void begins() {
        FrameRound x = Check.planned(PLAN);
        clock("begins", x, 0, 0, 0, 0, 0, 0, 0, -2, -2, -2);
        CHECK.refused("29 no what", x, x.clock(10), 1);
        CHECK.refused("29 no what", x, x.clock(-1), 1);
        x.run(7);
        clock("goes", x, 35, 0, 3, 0, 0, 0, 0, -2, -2, -2);
    }

    private static void ahead() {
        FrameRound x = Check.planned(PLAN);
        x.run(6);
        int[] slack = {0, 2, 4, 4};
        for (int n = 0; n < 12; n++) {
            CHECK.told("30 begins " + n, x, x.ahead(n, 0), 30 + 5 * n);
            CHECK.told("30 mode " + n, x, x.ahead(n, 1), 0);
            CHECK.told("30 which " + n, x, x.ahead(n, 2), (2 + n) % 4);
            CHECK.told("30 slack " + n, x, x.ahead(n, 3), slack[(2 + n) % 4]);
        }
        CHECK.told("30 the last", x, x.ahead(99, 0), 525);
        CHECK.refused("30 farther", x, x.ahead(100, 0), 2);
        CHECK.refused("30 less", x, x.ahead(-1, 0), 2);
        CHECK.refused("30 no what", x, x.ahead(0, 4), 1);
        CHECK.refused("30 no what first", x, x.ahead(100, -1), 1);
        FrameRound y = Check.planned(ZERO);
        CHECK.told("30 of one mode alone", y, y.ahead(3, 3), 4);
    }

    private static void waiting(String what, FrameRound x, int[]... due) {
        CHECK.due("31 " + what, x.clock(3), due.length);
        for (int i = 0; i < due.length; i++) {
            for (int w = 0; w < 3; w++) {
                CHECK.told("31 " + what + " " + i + " " + w, x, x.waiting(i, w), due[i][w]);
            }
        }
        CHECK.refused("31 no more", x, x.waiting(due.length, 0), 1);
    }

    private static void takenAndDone() {
        FrameRound x = Check.planned(PLAN);
        CHECK.told("33 one", x, x.take(3, 15), 0);
        waiting("one", x, new int[] {3, 15, 15});
        CHECK.told("33 ahead of it", x, x.take(2, 10), 0);
        waiting("two", x, new int[] {2, 10, 10}, new int[] {3, 15, 15});
        CHECK.refused("33 too much up to 10", x, x.take(1, 10), 5);
        CHECK.refused("33 too much up to 15", x, x.take(2, 15), 5);
        CHECK.refused("33 too much for another", x, x.take(2, 14), 5);
        CHECK.told("33 behind its like", x, x.take(1, 15), 2);
        waiting("three", x, new int[] {2, 10, 10}, new int[] {3, 15, 15}, new int[] {1, 15, 15});
        CHECK.told("36 no SLACK", x, x.spare(), 0);
        CHECK.told("37 all CUT OFF", x, x.step(3), 0);
        clock("a FRAME without SLACK", x, 5, 0, 1, 3, 0, 0, 3, -2, -2, -2);
        CHECK.told("36 all of it needed", x, x.spare(), 0);
        CHECK.told("37 all CUT OFF", x, x.step(1), 0);
        clock("one DONE", x, 10, 0, 2, 2, 1, 0, 4, -2, -2, 0);
        waiting("two still", x, new int[] {3, 15, 15}, new int[] {1, 15, 15});
        CHECK.told("38 two DONE", x, x.run(1), 2);
        CHECK.told("36 all SLACK", x, x.spare(), 4);
        CHECK.told("37 it gets 4", x, x.step(9), 4);
        clock("all DONE", x, 20, 0, 0, 0, 3, 4, 9, -2, -2, 0);
        CHECK.refused("31 none", x, x.waiting(0, 0), 1);
    }

    private static void order() {
        FrameRound x = Check.planned(PLAN);
        CHECK.told("33 a", x, x.take(1, 100), 0);
        CHECK.told("33 b", x, x.take(2, 100), 1);
        CHECK.told("33 c", x, x.take(3, 60), 0);
        CHECK.told("33 d", x, x.take(4, 100), 3);
        CHECK.told("33 e", x, x.take(5, 99), 1);
        CHECK.told("33 f", x, x.take(1, 400), 5);
        // 2 up to 10, 6 up to 15, 10 up to 20, 12 up to 30, 16 up to 35.
        waiting("in order", x, new int[] {3, 60, 15}, new int[] {5, 99, 20}, new int[] {1, 100, 20},
            new int[] {2, 100, 30}, new int[] {4, 100, 35}, new int[] {1, 400, 35});
        x.run(2);
        waiting("one begun", x, new int[] {1, 60, 15}, new int[] {5, 99, 20}, new int[] {1, 100, 20},
            new int[] {2, 100, 30}, new int[] {4, 100, 35}, new int[] {1, 400, 35});
        CHECK.told("37 SLACK for two of them", x, x.step(0), 0);
        waiting("two touched", x, new int[] {2, 99, 20}, new int[] {1, 100, 20}, new int[] {2, 100, 30},
            new int[] {4, 100, 35}, new int[] {1, 400, 35});
        CHECK.refused("31 no what", x, x.waiting(0, 3), 1);
        CHECK.refused("31 no what", x, x.waiting(0, -1), 1);
        CHECK.refused("31 no i", x, x.waiting(-1, 0), 1);
    }

    private static void eight() {
        FrameRound x = Check.planned(PLAN);
        for (int i = 0; i < 8; i++) {
            CHECK.told("33 take", x, x.take(1, 50), i);
        }
        CHECK.refused("33 no room", x, x.take(1, 50), 3);
        CHECK.refused("33 no room ahead of not IN TIME", x, x.take(400, 50), 3);
        CHECK.refused("33 a number ahead of no room", x, x.take(401, 50), 2);
        CHECK.told("32 however many", x, x.canTake(1, 50), 1);
        CHECK.told("34 likewise", x, x.soonest(1), 10);
        // 24 up to 50 (10, 10, 2, and 2 of FRAME 9): 8 are needed.
        CHECK.told("35 likewise", x, x.greatest(50), 14);
        x.run(3);
        CHECK.told("33 room again", x, x.take(1, 50), 2);
    }

    private static void canTake() {
        FrameRound x = Check.planned(PLAN);
        CHECK.told("32 no SLACK so soon", x, x.canTake(1, 9), 0);
        CHECK.told("32 just in time", x, x.canTake(2, 10), 1);
        CHECK.told("32 too much", x, x.canTake(3, 10), 0);
        CHECK.told("32 part of a FRAME doesn't count", x, x.canTake(3, 14), 0);
        CHECK.told("32 all of it", x, x.canTake(200, 400), 1);
        CHECK.told("32 more", x, x.canTake(201, 400), 0);
        CHECK.due("32 nothing is taken", x.clock(3), 0);
        x.take(6, 15);
        CHECK.told("32 another's", x, x.canTake(1, 10), 0);
        CHECK.told("32 another's", x, x.canTake(1, 15), 0);
        CHECK.told("32 behind it", x, x.canTake(4, 20), 1);
        CHECK.told("32 behind it", x, x.canTake(5, 20), 0);
        CHECK.refused("32 no NEED", x, x.canTake(0, 20), 2);
        CHECK.refused("32 NEED", x, x.canTake(401, 20), 2);
        CHECK.refused("32 NOW", x, x.canTake(1, 0), 2);
        CHECK.refused("32 far", x, x.canTake(1, 401), 2);
        x.run(1);
        CHECK.refused("32 NOW", x, x.canTake(1, 5), 2);
        CHECK.told("32 behind NOW", x, x.canTake(1, 6), 0);
        CHECK.told("32 far", x, x.canTake(1, 405), 1);
        CHECK.refused("32 farther", x, x.canTake(1, 406), 2);
        CHECK.refused("32 the least", x, x.canTake(1, Integer.MIN_VALUE), 2);
        CHECK.refused("32 the greatest", x, x.canTake(1, Integer.MAX_VALUE), 2);
    }

    private static void soonestAndGreatest() {
        FrameRound x = Check.planned(PLAN);
        x.run(4);
        CHECK.told("34 one", x, x.soonest(1), 30);
        CHECK.told("34 two", x, x.soonest(2), 30);
        CHECK.told("34 three", x, x.soonest(3), 35);
        CHECK.told("34 all", x, x.soonest(200), 420);
        CHECK.told("34 more than all", x, x.soonest(201), -2);
        CHECK.told("34 400", x, x.soonest(400), -2);
        CHECK.told("35 none", x, x.greatest(29), 0);
        CHECK.told("35 some", x, x.greatest(30), 2);
        CHECK.told("35 some", x, x.greatest(39), 6);
        CHECK.told("35 all", x, x.greatest(420), 200);
        CHECK.refused("35 farther", x, x.greatest(421), 2);
        CHECK.refused("35 NOW", x, x.greatest(20), 2);
        CHECK.refused("34 no NEED", x, x.soonest(0), 2);
        CHECK.refused("34 NEED", x, x.soonest(401), 2);
        x.take(5, 36);
        CHECK.told("34 beside another", x, x.soonest(1), 30);
        CHECK.told("34 behind another", x, x.soonest(2), 40);
        CHECK.told("35 beside another", x, x.greatest(30), 1);
        CHECK.told("35 behind another", x, x.greatest(39), 1);
        CHECK.told("35 behind another", x, x.greatest(40), 5);
        FrameRound y = Check.planned(Check.mode(60, 0));
        CHECK.told("35 as much as there is", y, y.greatest(400), 360);
        y.take(360, 400);
        CHECK.told("35 0 by none", y, y.greatest(400), 0);
        CHECK.told("34 none", y, y.soonest(1), -2);
        FrameRound z = Check.planned(Check.mode(4, 0));
        CHECK.told("35 400 at most", z, z.greatest(400), 400);
        CHECK.told("34 the last", z, z.soonest(400), 400);
    }

    private static void spare() {
        FrameRound x = Check.planned(PLAN);
        x.run(2);
        CHECK.told("36 all", x, x.spare(), 4);
        x.take(7, 20);
        CHECK.told("36 what isn't needed", x, x.spare(), 1);
        x.take(2, 100);
        CHECK.told("36 what is due later", x, x.spare(), 1);
        x.take(1, 15);
        CHECK.told("36 none", x, x.spare(), 0);
        CHECK.told("37 none", x, x.step(99), 0);
        CHECK.due("29 CUT OFF", x.clock(6), 99);
        CHECK.told("36 none still", x, x.spare(), 0);
        FrameRound y = Check.planned(PLAN);
        y.take(4, 20);
        y.run(2);
        CHECK.told("36 of what is ahead now", y, y.spare(), 4);
        y.take(5, 20);
        y.take(1, 80);
        y.back();
        CHECK.told("36 less", y, y.spare(), 1);
        y.step(0);
        CHECK.told("36 and less", y, y.spare(), 1);
    }

    private static void stepAndRun() {
        FrameRound x = Check.planned(PLAN);
        x.run(2);
        x.keep();
        CHECK.told("37 one", x, x.step(1), 1);
        x.back();
        CHECK.told("37 as much as it asks for", x, x.step(3), 3);
        CHECK.told("37 none", x, x.step(0), 0);
        clock("steps", x, 20, 0, 0, 0, 0, 3, 0, -2, -2, -2);
        CHECK.refused("37 less", x, x.step(-1), 2);
        CHECK.refused("37 more", x, x.step(100), 2);
        CHECK.refused("38 none", x, x.run(0), 2);
        CHECK.refused("38 more", x, x.run(101), 2);
        CHECK.due("29 refused: NOW stays", x.clock(0), 20);
        CHECK.told("37 the most", x, x.step(99), 0);
        CHECK.due("29 CUT OFF", x.clock(6), 99);
        x.take(4, 100);
        x.take(4, 100);
        CHECK.told("38 none yet", x, x.run(1), 0);
        CHECK.told("38 all", x, x.run(100), 2);
        CHECK.due("29 NOW", x.clock(0), 530);
        // Half of a NEED, with an OVERRUN beside it.
        FrameRound y = Check.planned(PLAN);
        y.take(5, 40);
        y.run(2);
        CHECK.due("31 NEED", y.waiting(0, 0), 3);
        CHECK.told("36 the rest comes later", y, y.spare(), 4);
        CHECK.told("37 OVERRUN first", y, y.step(2), 2);
        CHECK.due("31 what was left", y.waiting(0, 0), 1);
    }

    private static void safeEnds() {
        FrameRound x = Check.planned(PLAN);
        CHECK.told("39 NOW", x, x.safeEnd(1), 0);
        CHECK.told("39 the same mode", x, x.safeEnd(0), 0);
        x.run(1);
        CHECK.told("39 a JOB is OPEN", x, x.safeEnd(1), 10);
        CHECK.told("39 the same mode", x, x.safeEnd(0), 10);
        CHECK.refused("39 no TABLE", x, x.safeEnd(2), 5);
        CHECK.refused("39 no mode", x, x.safeEnd(3), 1);
        CHECK.refused("39 no mode", x, x.safeEnd(-1), 1);
        CHECK.due("39 no SWITCH by it", x.clock(7), -2);
        x.run(1);
        CHECK.told("39 in the midst of a ROUND", x, x.safeEnd(1), 10);
        // OPEN in all FRAMES but the first: at the end of the ROUND none is.
        FrameRound y = Check.planned(Check.mode(5, 0) + Check.task(0, 20, 18, 20) + ";" + ONE);
        y.run(1);
        CHECK.told("39 the end of the ROUND", y, y.safeEnd(1), 20);
        y.run(4);
        CHECK.told("39 the next", y, y.safeEnd(1), 40);
    }

    private static void safeEndsWithWaiting() {
        FrameRound x = Check.planned(PLAN);
        x.run(2);
        x.take(4, 15);
        CHECK.told("39 mode 1 is too slow: behind FRAME 2", x, x.safeEnd(1), 15);
        CHECK.told("39 so is mode 0 from FRAME 0 on", x, x.safeEnd(0), 15);
        x.take(5, 36);
        // From 15 on 5 are needed up to 36: mode 1 has 5 up to 35.
        CHECK.told("39 just fast enough", x, x.safeEnd(1), 15);
        x.take(1, 36);
        CHECK.told("39 a FRAME more", x, x.safeEnd(1), 20);
        CHECK.told("40 it is so", x, x.change(1), 20);
        CHECK.told("38 all in time", x, x.run(10), 3);
        // Without any SLACK of its own the other mode must wait for the last one WAITING.
        FrameRound y = Check.planned(Check.mode(4, 3) + Check.task(0, 48, 1, 4) + ";"
            + Check.mode(60, 59) + Check.task(0, 60, 1, 60));
        CHECK.told("33 far", y, y.take(90, 400), 0);
        // 11 of each 48: 90 by 8 ROUNDS and 3 FRAMES, that is 396; at 392 one is left.
        CHECK.told("31 far", y, y.waiting(0, 2), 396);
        CHECK.told("39 far", y, y.safeEnd(1), 396);
        CHECK.told("40 far", y, y.change(1), 396);
        CHECK.due("29 far", y.clock(8), 396);
        CHECK.told("38 far", y, y.run(99), 1);
        CHECK.told("29 then", y, y.clock(1), 1);
        safeEndsInLaterRounds();
    }

    /** SLACKS 5, 0, 0, 3; its JOB is OPEN at FRAMES 2 and 3; the other mode has no SLACK. */
    private static void safeEndsInLaterRounds() {
        int[] need = {5, 6, 8, 9, 13, 14, 16, 17};
        int[] due = {5, 20, 20, 25, 25, 40, 40, 45};
        for (int i = 0; i < need.length; i++) {
            FrameRound x = Check.planned(Check.mode(5, 0) + Check.task(5, 20, 12, 15) + ";"
                + Check.mode(60, 59) + Check.task(0, 60, 1, 60));
            x.take(need[i], 400);
            CHECK.told("39 behind " + need[i], x, x.safeEnd(1), due[i]);
        }
    }

    private static void switching() {
        FrameRound x = Check.planned(PLAN);
        CHECK.told("40 at once", x, x.change(1), 0);
        clock("at once", x, 0, 1, 0, 0, 0, 0, 0, -2, -2, -2);
        CHECK.told("40 back at once", x, x.change(0), 0);
        x.run(1);
        CHECK.told("40 later", x, x.change(1), 10);
        clock("later", x, 5, 0, 1, 0, 0, 0, 0, 1, 10, -2);
        CHECK.refused("40 one is to come", x, x.change(0), 5);
        CHECK.refused("39 one is to come", x, x.safeEnd(0), 5);
        CHECK.refused("40 no mode first", x, x.change(3), 1);
        x.step(0);
        clock("done", x, 10, 1, 0, 0, 0, 0, 0, -2, -2, -2);
        x.run(2);
        clock("in mode 1", x, 18, 1, 0, 0, 0, 0, 0, -2, -2, -2);
        CHECK.refused("40 no TABLE", x, x.change(2), 5);
        CHECK.refused("40 no mode", x, x.change(-1), 1);
        CHECK.told("40 to mode 0", x, x.change(0), 18);
        clock("from FRAME 0", x, 18, 0, 0, 0, 0, 0, 0, -2, -2, -2);
        x.run(1);
        CHECK.told("40 the same mode", x, x.change(0), 28);
        x.run(1);
        clock("from FRAME 0 anew", x, 28, 0, 0, 0, 0, 0, 0, -2, -2, -2);
    }

    private static void switchedAhead() {
        FrameRound x = Check.planned(PLAN);
        x.run(1);
        x.change(1);
        int[][] due = {{5, 0, 1, 2}, {10, 1, 0, 1}, {14, 1, 0, 1}, {18, 1, 0, 1}};
        for (int n = 0; n < 4; n++) {
            for (int what = 0; what < 4; what++) {
                CHECK.told("30 " + n + " " + what, x, x.ahead(n, what), due[n][what]);
            }
        }
        CHECK.told("30 the last", x, x.ahead(99, 0), 402);
        // 2 up to 10, then 1 each at 14, 18, ..
        CHECK.told("35 up to the SWITCH", x, x.greatest(10), 2);
        CHECK.told("35 behind it", x, x.greatest(13), 2);
        CHECK.told("35 behind it", x, x.greatest(14), 3);
        CHECK.told("35 far behind it", x, x.greatest(405), 2 + 98);
        CHECK.told("34 behind it", x, x.soonest(4), 18);
        CHECK.told("32 behind it", x, x.canTake(5, 21), 0);
        CHECK.told("33 behind it", x, x.take(4, 20), 0);
        CHECK.told("31 behind it", x, x.waiting(0, 2), 18);
        CHECK.told("36 by the SWITCH", x, x.spare(), 0);
        CHECK.told("38 DONE behind it", x, x.run(3), 1);
        clock("behind it", x, 18, 1, 0, 0, 1, 0, 0, -2, -2, 2);
    }

    /** The other mode's ROUND, from FRAME 0, wherever the first one was left. */
    private static void switchedRounds() {
        FrameRound x = Check.planned(PLAN);
        CHECK.told("40 at once", x, x.change(1), 0);
        x.take(1, 4);
        CHECK.told("40 behind the one WAITING", x, x.change(0), 4);
        int[][] due = {{0, 1, 0, 1}, {4, 0, 0, 0}, {9, 0, 1, 2}, {14, 0, 2, 4}, {19, 0, 3, 4}, {24, 0, 0, 0}};
        for (int n = 0; n < due.length; n++) {
            for (int what = 0; what < 4; what++) {
                CHECK.told("30 rounds " + n + " " + what, x, x.ahead(n, what), due[n][what]);
            }
        }
        CHECK.told("35 rounds", x, x.greatest(14), 2);
        CHECK.told("35 rounds", x, x.greatest(400), 2 + 4 + 4 + 18 * 10 + 2 + 4);
        CHECK.told("34 rounds", x, x.soonest(3), 19);
        x.run(1);
        CHECK.told("40 at once", x, x.change(1), 4);
        CHECK.told("40 at once", x, x.change(0), 4);
        x.run(1);
        x.change(0);
        CHECK.told("30 the same mode from FRAME 0", x, x.ahead(1, 2), 0);
        CHECK.told("30 and on", x, x.ahead(3, 2), 2);
    }

    /** What is ahead follows THE CLOCK, whatever was asked in between. */
    private static void switchedBack() {
        FrameRound x = Check.planned(PLAN);
        x.run(1);
        x.change(1);
        x.keep();
        x.run(1);
        x.safeEnd(0);
        x.back();
        CHECK.told("35 behind the SWITCH", x, x.greatest(22), 5);
        CHECK.told("34 behind the SWITCH", x, x.soonest(5), 22);
    }

    private static void leastTime() {
        FrameRound x = Check.planned(Check.mode(10, 5));
        x.take(5, 100);
        x.run(1);
        CHECK.due("29 the time left", x.clock(9), 90);
        x.take(5, 27);
        x.run(1);
        CHECK.due("29 the least", x.clock(9), 7);
        x.take(5, 200);
        x.run(1);
        CHECK.due("29 it stays", x.clock(9), 7);
        CHECK.due("29 DONE", x.clock(4), 3);
        x.take(5, 40);
        x.run(1);
        CHECK.due("29 none left", x.clock(9), 0);
    }

    private static void keepAndBack() {
        FrameRound x = Check.planned(PLAN);
        CHECK.due("42 nothing is kept", x.back(), false);
        CHECK.due("42 refused", x.trouble(), 1);
        FrameRound y = Check.planned(PLAN);
        y.run(1);
        y.take(4, 15);
        y.take(1, 38);
        y.step(9);
        y.change(1);
        clock("ahead of keep", y, 10, 0, 2, 2, 0, 2, 7, 1, 15, -2);
        y.mode(9, 9);
        CHECK.due("41 kept", y.keep(), true);
        CHECK.due("41 not refused", y.trouble(), 0);
        CHECK.due("41 it goes on", y.clock(0), 10);
        y.run(3);
        y.take(1, 100);
        y.step(20);
        y.mode(9, 9);
        CHECK.due("42 back", y.back(), true);
        CHECK.due("42 not refused", y.trouble(), 0);
        clock("as it was", y, 10, 0, 2, 2, 0, 2, 7, 1, 15, -2);
        waiting("as they were", y, new int[] {4, 15, 15}, new int[] {1, 38, 19});
        y.run(1);
        CHECK.due("42 it stays kept", y.back(), true);
        clock("again", y, 10, 0, 2, 2, 0, 2, 7, 1, 15, -2);
        y.run(2);
        CHECK.due("41 another time", y.keep(), true);
        y.run(5);
        y.back();
        CHECK.due("42 the one kept last", y.clock(0), 19);
        y.recost(0, 0, 5);
        CHECK.due("42 none since the CHANGE", y.back(), false);
        CHECK.due("42 refused", y.trouble(), 1);
        y.keep();
        CHECK.due("42 kept since", y.back(), true);
        Check.plan(y, ONE);
        CHECK.due("42 none since the PLAN", y.back(), false);
    }

    private static void refused(FrameRound x, int number) {
        CHECK.refused("30", x, x.ahead(0, 0), number);
        CHECK.refused("32", x, x.canTake(1, 1), number);
        CHECK.refused("32 ahead of 2", x, x.canTake(0, 0), number);
        CHECK.refused("33", x, x.take(1, 1), number);
        CHECK.refused("33 ahead of 2", x, x.take(0, 0), number);
        CHECK.refused("34", x, x.soonest(1), number);
        CHECK.refused("34 ahead of 2", x, x.soonest(0), number);
        CHECK.refused("35", x, x.greatest(1), number);
        CHECK.refused("35 ahead of 2", x, x.greatest(0), number);
        CHECK.refused("36", x, x.spare(), number);
        CHECK.refused("37", x, x.step(0), number);
        CHECK.refused("37 ahead of 2", x, x.step(100), number);
        CHECK.refused("38", x, x.run(1), number);
        CHECK.refused("38 ahead of 2", x, x.run(0), number);
        CHECK.refused("39", x, x.safeEnd(0), number);
        CHECK.refused("40", x, x.change(0), number);
    }

    private static void withoutPlan() {
        FrameRound x = new FrameRound();
        refused(x, 1);
        CHECK.refused("29 without a PLAN", x, x.clock(0), 1);
        CHECK.refused("30 ahead of 2", x, x.ahead(100, 0), 1);
        CHECK.refused("31 without a PLAN", x, x.waiting(0, 0), 1);
        x.plan(1);
        CHECK.due("41 without a PLAN", x.keep(), false);
        CHECK.due("41 refused", x.trouble(), 1);
        x.plan(1);
        CHECK.due("42 without a PLAN", x.back(), false);
        CHECK.due("42 refused", x.trouble(), 1);
    }

    private static void withoutTable() {
        FrameRound x = Check.planned(TWO + ";" + ONE);
        refused(x, 5);
        clock("without a TABLE", x, 0, 0, 0, 0, 0, 0, 0, -2, -2, -2);
        CHECK.refused("30 ahead of 2", x, x.ahead(100, 0), 5);
        CHECK.refused("30 behind 1", x, x.ahead(0, 4), 1);
        CHECK.refused("31 none WAITING", x, x.waiting(0, 0), 1);
        CHECK.refused("39 to one that has a TABLE", x, x.safeEnd(1), 5);
        CHECK.refused("40 to one that has a TABLE", x, x.change(1), 5);
        CHECK.refused("40 behind 1", x, x.change(2), 1);
        CHECK.due("41 without a TABLE", x.keep(), true);
        CHECK.due("42 without a TABLE", x.back(), true);
    }

    private static void numbers() {
        FrameRound x = Check.planned(PLAN);
        int[] wrong = {Integer.MIN_VALUE, -1, 0, 401, Integer.MAX_VALUE};
        for (int w : wrong) {
            CHECK.refused("33 NEED", x, x.take(w, 10), 2);
            CHECK.refused("33 DUE", x, x.take(1, w), 2);
            CHECK.refused("34 NEED", x, x.soonest(w), 2);
            CHECK.refused("35 DUE", x, x.greatest(w), 2);
        }
        CHECK.due("33 none is TAKEN", x.clock(3), 0);
        CHECK.told("33 the edges", x, x.take(1, 400), 0);
        CHECK.refused("37 the least", x, x.step(Integer.MIN_VALUE), 2);
        CHECK.refused("38 the greatest", x, x.run(Integer.MAX_VALUE), 2);
        CHECK.refused("30 the least", x, x.ahead(Integer.MIN_VALUE, 0), 2);
    }
}
