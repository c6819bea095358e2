/** Boundary cases of promises 43 to 45: recost, reframe, reserve. */
public final class ChangesEdgesTest {
    private static final Check CHECK = new Check("ChangesEdgesTest");
    private static final int[] FAR = {-1, Integer.MIN_VALUE, Integer.MAX_VALUE};
    private static final String ZERO = Check.mode(5, 1) + Check.task(0, 20, 6, 20) + Check.task(5, 20, 1, 15);
    private static final String ONE = Check.mode(10, 3);
    private static final String PLAN = ZERO + ";" + ONE;

    public static void main(String[] args) {
        CHECK.runAll(ChangesEdgesTest.class);
        CHECK.end();
    }

    private interface Act {
        int on(FrameRound x);
    }

    private static FrameRound used() {
        FrameRound x = Check.planned(PLAN);
        x.run(2);
        x.take(1, 15);
        x.take(3, 100);
        x.step(9);
        x.run(2);
        x.take(2, 300);
        x.change(1);
        x.keep();
        int[] due = {25, 0, 1, 1, 2, 3, 6, 1, 30, 0};
        for (int what = 0; what < due.length; what++) {
            CHECK.told("used: clock " + what, x, x.clock(what), due[what]);
        }
        return x;
    }

    /** THE CLOCK begins, and nothing is kept. */
    private static void anew(Act act, int former) {
        FrameRound x = used();
        CHECK.told("the one it had", x, act.on(x), former);
        int[] due = {0, 0, 0, 0, 0, 0, 0, -2, -2, -2};
        for (int what = 0; what < due.length; what++) {
            CHECK.told("anew: clock " + what, x, x.clock(what), due[what]);
        }
        CHECK.refused("none WAITING", x, x.waiting(0, 0), 1);
        CHECK.due("nothing is kept", x.size(4), 0);
        CHECK.due("no way back", x.back(), false);
    }

    /** Nothing at all is changed. */
    private static void stays(Act act, int number) {
        FrameRound x = used();
        CHECK.refused("refused", x, act.on(x), number);
        int[] due = {25, 0, 1, 1, 2, 3, 6, 1, 30, 0};
        for (int what = 0; what < due.length; what++) {
            CHECK.told("clock " + what, x, x.clock(what), due[what]);
        }
        CHECK.told("NEED", x, x.waiting(0, 0), 2);
        CHECK.told("COST", x, x.task(0, 0, 2), 6);
        CHECK.told("COST", x, x.task(0, 1, 2), 1);
        CHECK.told("FRAME", x, x.mode(0, 0), 5);
        CHECK.told("RESERVE", x, x.mode(0, 1), 1);
        CHECK.told("FRAME", x, x.mode(1, 0), 10);
        CHECK.told("RESERVE", x, x.mode(1, 1), 3);
        CHECK.told("SLACK", x, x.slack(0, 1), 1);
        CHECK.told("SLACK", x, x.slack(1, 0), 7);
        CHECK.due("kept", x.size(4), 1);
        CHECK.due("back", x.back(), true);
    }

    // ---- promise 43

    static void promise43_numbers() {
        FrameRound none = new FrameRound();
        CHECK.refused("without a PLAN", none, none.recost(0, 0, 1), 1);
        CHECK.refused("without a PLAN, 1 ahead of 2", none, none.recost(0, 0, 0), 1);
        FrameRound x = Check.planned(PLAN);
        CHECK.refused("0", x, x.recost(0, 0, 0), 2);
        CHECK.told("the least", x, x.recost(0, 0, 1), 6);
        CHECK.told("the greatest", x, x.recost(0, 0, 60), 1);
        CHECK.refused("61", x, x.recost(0, 0, 61), 2);
        CHECK.told("60 still", x, x.task(0, 0, 2), 60);
        CHECK.told("the last TASK", x, x.recost(0, 1, 2), 1);
        CHECK.refused("the next", x, x.recost(0, 2, 2), 1);
        CHECK.refused("the next, 1 ahead of 2", x, x.recost(0, 2, 0), 1);
        CHECK.refused("of none", x, x.recost(1, 0, 1), 1);
        CHECK.refused("the next mode", x, x.recost(2, 0, 1), 1);
        for (int far : FAR) {
            CHECK.refused("mode " + far, x, x.recost(far, 0, 1), 1);
            CHECK.refused("TASK " + far, x, x.recost(0, far, 1), 1);
            CHECK.refused("COST " + far, x, x.recost(0, 0, far), 2);
            CHECK.refused("TASK and COST " + far, x, x.recost(0, far, far), 1);
        }
    }

    static void promise43_theClockIsAnew() {
        anew(x -> x.recost(0, 0, 5), 6);
        anew(x -> x.recost(0, 0, 6), 6);
        anew(x -> x.recost(0, 1, 60), 1);
    }

    static void promise43_refusedNothingIsChanged() {
        stays(x -> x.recost(0, 0, 0), 2);
        stays(x -> x.recost(0, 0, 61), 2);
        stays(x -> x.recost(0, 2, 1), 1);
        stays(x -> x.recost(1, 0, 1), 1);
        stays(x -> x.recost(2, 0, 1), 1);
    }

    /** 16 UNITS of ROOM: 15 and 1 just fit, 16 and 1 don't; the TABLE goes and comes. */
    static void promise43_tablesAreAnew() {
        FrameRound x = Check.planned(PLAN);
        CHECK.told("just", x, x.recost(0, 0, 15), 6);
        CHECK.told("full", x, x.slack(0, 3), 0);
        CHECK.told("one more", x, x.recost(0, 0, 16), 15);
        CHECK.told("no TABLE", x, x.hasTable(0), 0);
        CHECK.refused("no SLACK", x, x.slack(0, 3), 5);
        CHECK.refused("no STEP", x, x.step(0), 5);
        CHECK.told("the other has", x, x.hasTable(1), 1);
        CHECK.told("back", x, x.recost(0, 0, 15), 16);
        CHECK.told("a TABLE", x, x.hasTable(0), 1);
        CHECK.told("a STEP", x, x.step(0), 0);
        CHECK.told("JOB", x, x.job(0, 0, 3), 15);
        CHECK.told("all COSTS", x, x.mode(0, 6), 16);
        CHECK.told("load", x, x.load(0), Double.doubleToRawLongBits(15.0 / 20.0 + 1.0 / 20.0));
    }

    /** Another PLAN, and what was told by the text counts. */
    static void promise43_untilAnotherPlan() {
        FrameRound x = Check.planned(PLAN);
        x.recost(0, 0, 9);
        x.reframe(1, 12);
        x.reserve(0, 2);
        Check.plan(x, PLAN);
        CHECK.told("COST", x, x.task(0, 0, 2), 6);
        CHECK.told("FRAME", x, x.mode(1, 0), 10);
        CHECK.told("RESERVE", x, x.mode(0, 1), 1);
    }

    // ---- promise 44

    static void promise44_numbers() {
        FrameRound none = new FrameRound();
        CHECK.refused("without a PLAN", none, none.reframe(0, 10), 1);
        CHECK.refused("without a PLAN, 1 ahead of 2", none, none.reframe(0, 3), 1);
        FrameRound x = Check.planned(PLAN);
        CHECK.refused("3", x, x.reframe(0, 3), 2);
        CHECK.told("the least", x, x.reframe(0, 4), 5);
        CHECK.told("the greatest", x, x.reframe(0, 60), 4);
        CHECK.refused("61", x, x.reframe(0, 61), 2);
        CHECK.told("60 still", x, x.mode(0, 0), 60);
        CHECK.told("the last mode", x, x.reframe(1, 11), 10);
        CHECK.refused("the next", x, x.reframe(2, 11), 1);
        CHECK.refused("the next, 1 ahead of 2", x, x.reframe(2, 3), 1);
        for (int far : FAR) {
            CHECK.refused("mode " + far, x, x.reframe(far, 10), 1);
            CHECK.refused("FRAME " + far, x, x.reframe(0, far), 2);
            CHECK.refused("both " + far, x, x.reframe(far, far), 1);
        }
    }

    /** More than its RESERVE. */
    static void promise44_andReserve() {
        FrameRound x = Check.planned(Check.mode(60, 30) + ";" + Check.mode(60, 59) + ";" + Check.mode(60, 3));
        CHECK.refused("less", x, x.reframe(0, 29), 2);
        CHECK.refused("just it", x, x.reframe(0, 30), 2);
        CHECK.told("one more", x, x.reframe(0, 31), 60);
        CHECK.told("SLACK", x, x.slack(0, 0), 1);
        CHECK.refused("59", x, x.reframe(1, 59), 2);
        CHECK.told("60", x, x.reframe(1, 60), 60);
        CHECK.told("4", x, x.reframe(2, 4), 60);
    }

    static void promise44_theClockIsAnew() {
        anew(x -> x.reframe(0, 10), 5);
        anew(x -> x.reframe(0, 5), 5);
        anew(x -> x.reframe(1, 60), 10);
    }

    static void promise44_refusedNothingIsChanged() {
        stays(x -> x.reframe(0, 3), 2);
        stays(x -> x.reframe(0, 61), 2);
        stays(x -> x.reframe(1, 3), 2);
        stays(x -> x.reframe(2, 10), 1);
        stays(x -> x.reframe(-1, 10), 1);
    }

    /** The ROUND of a mode without TASKS is its FRAME; else the FRAME doesn't touch it. */
    static void promise44_round() {
        FrameRound x = Check.planned(PLAN);
        x.reframe(1, 60);
        CHECK.told("without TASKS", x, x.mode(1, 3), 60);
        CHECK.told("one FRAME", x, x.mode(1, 5), 1);
        CHECK.told("a TABLE", x, x.slack(1, 0), 57);
        x.reframe(0, 20);
        CHECK.told("with TASKS", x, x.mode(0, 3), 20);
        CHECK.told("one FRAME", x, x.mode(0, 5), 1);
        CHECK.told("an empty WINDOW", x, x.job(0, 1, 4), -2);
        CHECK.told("no TABLE", x, x.hasTable(0), 0);
        x.reframe(0, 21);
        CHECK.told("no FRAME", x, x.mode(0, 5), 0);
        x.reframe(0, 4);
        CHECK.told("five", x, x.mode(0, 5), 5);
        CHECK.told("a TABLE", x, x.hasTable(0), 1);
        CHECK.told("REACH", x, x.task(0, 1, 5), 7);
        CHECK.told("timers", x, x.ticks(0, 1, 1000), 4);
    }

    // ---- promise 45

    static void promise45_numbers() {
        FrameRound none = new FrameRound();
        CHECK.refused("without a PLAN", none, none.reserve(0, 0), 1);
        CHECK.refused("without a PLAN, 1 ahead of 2", none, none.reserve(0, -1), 1);
        FrameRound x = Check.planned(PLAN + ";" + Check.mode(60, 0));
        CHECK.told("the least", x, x.reserve(0, 0), 1);
        CHECK.told("less than its FRAME", x, x.reserve(0, 4), 0);
        CHECK.refused("its FRAME", x, x.reserve(0, 5), 2);
        CHECK.refused("more", x, x.reserve(0, 6), 2);
        CHECK.told("4 still", x, x.mode(0, 1), 4);
        CHECK.told("the greatest", x, x.reserve(2, 59), 0);
        CHECK.refused("60", x, x.reserve(2, 60), 2);
        CHECK.refused("the next mode", x, x.reserve(3, 0), 1);
        CHECK.refused("the next mode, 1 ahead of 2", x, x.reserve(3, 60), 1);
        for (int far : FAR) {
            CHECK.refused("mode " + far, x, x.reserve(far, 0), 1);
            CHECK.refused("RESERVE " + far, x, x.reserve(0, far), 2);
            CHECK.refused("both " + far, x, x.reserve(far, far), 1);
        }
    }

    static void promise45_theClockIsAnew() {
        anew(x -> x.reserve(0, 0), 1);
        anew(x -> x.reserve(0, 1), 1);
        anew(x -> x.reserve(1, 9), 3);
    }

    static void promise45_refusedNothingIsChanged() {
        stays(x -> x.reserve(0, -1), 2);
        stays(x -> x.reserve(0, 5), 2);
        stays(x -> x.reserve(1, 10), 2);
        stays(x -> x.reserve(2, 0), 1);
        stays(x -> x.reserve(-1, 0), 1);
    }

    /** 7 UNITS in FRAMES of 5: by 3 there is ROOM for 8, by 4 for 4. */
    static void promise45_tablesAreAnew() {
        FrameRound x = Check.planned(PLAN);
        x.reserve(0, 3);
        CHECK.told("a TABLE", x, x.hasTable(0), 1);
        CHECK.told("SLACK", x, x.slack(0, 3), 1);
        x.reserve(0, 4);
        CHECK.told("no TABLE", x, x.hasTable(0), 0);
        CHECK.refused("no CLOCK", x, x.spare(), 5);
        x.reserve(0, 0);
        CHECK.told("a TABLE", x, x.hasTable(0), 1);
        CHECK.told("SLACK", x, x.slack(0, 3), 5);
        x.reserve(1, 9);
        CHECK.told("of the other", x, x.slack(1, 0), 1);
    }

    /** A CHANGE in the one, while THE CLOCK is in the other: it is in mode 0 again. */
    static void promise45_inAnotherMode() {
        FrameRound x = Check.planned(PLAN);
        x.change(1);
        x.run(1);
        CHECK.told("mode 1", x, x.clock(1), 1);
        x.reserve(1, 3);
        CHECK.told("mode 0", x, x.clock(1), 0);
        CHECK.told("NOW", x, x.clock(0), 0);
    }
}
