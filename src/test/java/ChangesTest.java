/** Promises 43 to 45: recost, reframe, reserve. */
public final class ChangesTest {
    private static final Check CHECK = new Check("ChangesTest");
    private static final String ZERO = Check.mode(5, 1) + Check.task(0, 20, 6, 20) + Check.task(5, 20, 1, 15);
    private static final String ONE = Check.mode(10, 3);

    public static void main(String[] args) {
        recost();
        reframe();
        reserve();
        clockIsAnew();
        tidiedAnew();
        refusedOnesChangeNothing();
        wrong();
        CHECK.end();
    }

    private static void recost() {
        FrameRound x = Check.planned(ZERO + ";" + ONE);
        CHECK.told("43 ahead of it", x, x.slack(0, 1), 1);
        CHECK.told("43 the one it had", x, x.recost(0, 0, 3), 6);
        CHECK.told("43 COST", x, x.task(0, 0, 2), 3);
        CHECK.told("43 COST of the JOB", x, x.job(0, 0, 3), 3);
        CHECK.told("43 the other TASK's stays", x, x.task(0, 1, 2), 1);
        CHECK.told("43 all COSTS", x, x.mode(0, 6), 4);
        CHECK.told("43 the TABLE is anew", x, x.slack(0, 0), 1);
        CHECK.told("43 the TABLE is anew", x, x.slack(0, 1), 3);
        CHECK.told("43 the most", x, x.recost(0, 1, 60), 1);
        CHECK.told("43 no TABLE", x, x.hasTable(0), 0);
        CHECK.told("43 the least", x, x.recost(0, 1, 1), 60);
        CHECK.told("43 a TABLE again", x, x.hasTable(0), 1);
        CHECK.told("43 load", x, x.load(0), Double.doubleToLongBits(3 / 20.0 + 1 / 20.0));
        CHECK.told("43 the same", x, x.recost(0, 1, 1), 1);
    }

    private static void reframe() {
        FrameRound x = Check.planned(ZERO + ";" + ONE);
        CHECK.told("44 the one it had", x, x.reframe(0, 10), 5);
        CHECK.told("44 FRAME", x, x.mode(0, 0), 10);
        CHECK.told("44 the ROUND is that of its TASKS", x, x.mode(0, 3), 20);
        CHECK.told("44 FRAMES", x, x.mode(0, 5), 2);
        CHECK.told("44 WINDOW", x, x.job(0, 1, 4), 1);
        CHECK.told("44 REACH", x, x.task(0, 0, 5), 10);
        CHECK.told("44 the TABLE is anew", x, x.slack(0, 0), 3);
        CHECK.told("44 no multiple", x, x.reframe(0, 7), 10);
        CHECK.told("44 no TABLE", x, x.hasTable(0), 0);
        CHECK.told("44 without TASKS", x, x.reframe(1, 60), 10);
        CHECK.told("44 the ROUND is the FRAME", x, x.mode(1, 3), 60);
        CHECK.told("44 the TABLE is anew", x, x.slack(1, 0), 57);
        CHECK.told("44 just more than the RESERVE", x, x.reframe(1, 4), 60);
        CHECK.told("44 timers", x, x.ticks(1, 1, 1000), 4);
        CHECK.refused("44 less than 4", x, x.reframe(1, 3), 2);
        x.reframe(1, 10);
        x.reserve(1, 6);
        CHECK.refused("44 the RESERVE", x, x.reframe(1, 6), 2);
        CHECK.told("44 one more", x, x.reframe(1, 7), 10);
    }

    private static void reserve() {
        FrameRound x = Check.planned(ZERO + ";" + ONE);
        CHECK.told("45 the one it had", x, x.reserve(0, 0), 1);
        CHECK.told("45 RESERVE", x, x.mode(0, 1), 0);
        CHECK.told("45 the TABLE is anew", x, x.slack(0, 3), 5);
        CHECK.told("45 much", x, x.reserve(0, 4), 0);
        CHECK.told("45 no TABLE", x, x.hasTable(0), 0);
        CHECK.told("45 without TASKS", x, x.reserve(1, 9), 3);
        CHECK.told("45 the TABLE is anew", x, x.slack(1, 0), 1);
        x.reframe(1, 60);
        CHECK.told("45 the most", x, x.reserve(1, 59), 9);
        CHECK.refused("45 more", x, x.reserve(1, 60), 2);
    }

    private static void used(FrameRound x) {
        x.run(2);
        x.take(1, 100);
        x.take(1, 15);
        x.step(9);
        x.run(2);
        x.change(1);
        x.keep();
        CHECK.due("43 used: a FRAME", x.clock(2), 1);
        CHECK.due("43 used: DONE", x.clock(4), 2);
        CHECK.due("43 used: a SWITCH", x.clock(7), 1);
    }

    private static void isAnew(String what, FrameRound x) {
        int[] due = {0, 0, 0, 0, 0, 0, 0, -2, -2, -2};
        for (int i = 0; i < due.length; i++) {
            CHECK.told(what + " clock " + i, x, x.clock(i), due[i]);
        }
        CHECK.due(what + " nothing is kept", x.size(4), 0);
        CHECK.due(what + " no way back", x.back(), false);
    }

    private static void clockIsAnew() {
        FrameRound x = Check.planned(ZERO + ";" + ONE);
        used(x);
        x.recost(0, 0, 5);
        isAnew("43", x);
        used(x);
        x.recost(0, 0, 5);
        isAnew("43 the same COST", x);
        used(x);
        x.reframe(1, 12);
        isAnew("44 another mode", x);
        used(x);
        x.reserve(0, 0);
        isAnew("45", x);
        x.change(1);
        x.take(9, 100);
        CHECK.due("43 in mode 1", x.clock(1), 1);
        CHECK.due("43 one WAITING", x.clock(3), 1);
        x.reserve(0, 1);
        isAnew("45 in mode 0", x);
        CHECK.refused("45 none WAITING", x, x.waiting(0, 0), 1);
    }

    /** 6 and 7 UNITS, of which 4 go from one FRAME to the other, each time. */
    private static void tidiedAnew() {
        FrameRound x = Check.planned(Check.mode(10, 0) + Check.task(0, 40, 6, 40) + Check.task(0, 40, 7, 40));
        CHECK.due("23 once", x.swaps(0), 1);
        x.recost(0, 0, 6);
        CHECK.due("43 once", x.swaps(0), 1);
        x.recost(0, 0, 3);
        CHECK.due("43 not at all", x.swaps(0), 0);
        CHECK.due("43 PIECES", x.pieces(0), 2);
    }

    private static void refusedOnesChangeNothing() {
        FrameRound x = Check.planned(ZERO + ";" + ONE);
        x.run(2);
        x.keep();
        x.recost(0, 2, 1);
        x.recost(0, 0, 61);
        x.reframe(0, 61);
        x.reserve(0, 5);
        CHECK.due("43 NOW stays", x.clock(0), 10);
        CHECK.due("43 it stays kept", x.size(4), 1);
        CHECK.due("43 COST stays", x.task(0, 0, 2), 6);
        CHECK.due("44 FRAME stays", x.mode(0, 0), 5);
        CHECK.due("45 RESERVE stays", x.mode(0, 1), 1);
    }

    private static void wrong() {
        FrameRound none = new FrameRound();
        CHECK.refused("43 without a PLAN", none, none.recost(0, 0, 0), 1);
        CHECK.refused("44 without a PLAN", none, none.reframe(0, 0), 1);
        CHECK.refused("45 without a PLAN", none, none.reserve(0, -1), 1);
        FrameRound x = Check.planned(ZERO + ";" + ONE);
        int[] wrong = {Integer.MIN_VALUE, -1, 61, Integer.MAX_VALUE};
        for (int w : wrong) {
            CHECK.refused("43 no mode", x, x.recost(w, 0, 0), 1);
            CHECK.refused("43 no TASK", x, x.recost(0, w, 0), 1);
            CHECK.refused("43 a COST", x, x.recost(0, 0, w), 2);
            CHECK.refused("44 no mode", x, x.reframe(w, 0), 1);
            CHECK.refused("44 a FRAME", x, x.reframe(0, w), 2);
            CHECK.refused("45 no mode", x, x.reserve(w, -1), 1);
            CHECK.refused("45 a RESERVE", x, x.reserve(0, w), 2);
        }
        CHECK.refused("43 a mode without TASKS", x, x.recost(1, 0, 1), 1);
        CHECK.refused("43 one TASK too far", x, x.recost(0, 2, 1), 1);
        CHECK.refused("43 0", x, x.recost(0, 0, 0), 2);
        CHECK.refused("44 one mode too far", x, x.reframe(2, 10), 1);
        CHECK.refused("44 3", x, x.reframe(0, 3), 2);
        CHECK.refused("45 the FRAME", x, x.reserve(0, 5), 2);
        CHECK.refused("45 the FRAME", x, x.reserve(1, 10), 2);
    }
}
