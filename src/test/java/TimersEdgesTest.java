/** Boundary cases of promises 46 and 47: ticks, astray. */
public final class TimersEdgesTest {
    private static final Check CHECK = new Check("TimersEdgesTest");
    private static final int[] FAR = {-1, Integer.MIN_VALUE, Integer.MAX_VALUE};
    private static final String PLAN = Check.mode(10, 0) + ";" + Check.mode(7, 0) + ";" + Check.mode(60, 0);

    public static void main(String[] args) {
        CHECK.runAll(TimersEdgesTest.class);
        CHECK.end();
    }

    private interface ByTimer {
        long of(FrameRound x, int m, int n, int hz);
    }

    private static void numbers(ByTimer call) {
        FrameRound none = new FrameRound();
        CHECK.refused("without a PLAN", none, call.of(none, 0, 1, 1), 1);
        CHECK.refused("without a PLAN, 1 ahead of 2", none, call.of(none, 0, -1, 0), 1);
        FrameRound x = Check.planned(PLAN);
        CHECK.told("the least n", x, call.of(x, 0, 0, 1), 0);
        CHECK.due("the greatest n", call.of(x, 0, 100000, 1) >= 0, true);
        CHECK.due("is told", x.trouble(), 0);
        CHECK.refused("100,001", x, call.of(x, 0, 100001, 1), 2);
        CHECK.refused("no hz", x, call.of(x, 0, 1, 0), 2);
        CHECK.due("the greatest hz", call.of(x, 0, 1, 100000) >= 0, true);
        CHECK.due("is told", x.trouble(), 0);
        CHECK.refused("100,001 hz", x, call.of(x, 0, 1, 100001), 2);
        CHECK.refused("0 FRAMES, no hz", x, call.of(x, 0, 0, 0), 2);
        CHECK.due("the last mode", call.of(x, 2, 1, 1) >= 0, true);
        CHECK.due("is told", x.trouble(), 0);
        CHECK.refused("the next", x, call.of(x, 3, 1, 1), 1);
        CHECK.refused("the next, 1 ahead of 2", x, call.of(x, 3, 100001, 0), 1);
        for (int far : FAR) {
            CHECK.refused("mode " + far, x, call.of(x, far, 1, 1), 1);
            CHECK.refused("n " + far, x, call.of(x, 0, far, 1), 2);
            CHECK.refused("hz " + far, x, call.of(x, 0, 1, far), 2);
            CHECK.refused("all " + far, x, call.of(x, far, far, far), 1);
        }
    }

    // ---- promise 46

    static void promise46_numbers() {
        numbers((x, m, n, hz) -> x.ticks(m, n, hz));
    }

    /** A TICK of 1000 UNITS: 99 FRAMES of 10 are less, 100 are one. */
    static void promise46_lessThanATick() {
        FrameRound x = Check.planned(PLAN);
        CHECK.told("less", x, x.ticks(0, 99, 1), 0);
        CHECK.told("just one", x, x.ticks(0, 100, 1), 1);
        CHECK.told("less than two", x, x.ticks(0, 199, 1), 1);
        CHECK.told("just two", x, x.ticks(0, 200, 1), 2);
    }

    static void promise46_theMost() {
        FrameRound x = Check.planned(PLAN);
        CHECK.told("600 millions", x, x.ticks(2, 100000, 100000), 600000000L);
        CHECK.told("6000", x, x.ticks(2, 100000, 1), 6000);
        CHECK.told("100", x, x.ticks(2, 1, 100000), 6000);
        CHECK.told("none", x, x.ticks(2, 0, 100000), 0);
    }

    /** As doubles: 21 by 1000.0 / 3000 is 63.00000000000001 or 62.99999999999999, as they tell. */
    static void promise46_asDoubles() {
        FrameRound x = Check.planned(PLAN);
        int[] hz = {3, 7, 9, 11, 49, 77, 3000, 7000, 99999};
        for (int h : hz) {
            for (int n = 1; n <= 20; n++) {
                CHECK.told("hz " + h + " n " + n, x, x.ticks(1, n, h), (long) ((double) (7 * n) / (1000.0 / (double) h)));
            }
        }
    }

    // ---- promise 47

    static void promise47_numbers() {
        numbers((x, m, n, hz) -> x.astray(m, n, hz));
    }

    static void promise47_nothingLeftOver() {
        FrameRound x = Check.planned(PLAN);
        CHECK.told("of none", x, x.astray(0, 0, 100000), 0);
        CHECK.told("just a TICK", x, x.astray(0, 100, 1), 0);
        CHECK.told("two", x, x.astray(0, 200, 1), 0);
        CHECK.told("all", x, x.astray(2, 100000, 1), 0);
        CHECK.told("TICKS of 1", x, x.astray(1, 99999, 1000), 0);
    }

    static void promise47_allLeftOver() {
        FrameRound x = Check.planned(PLAN);
        CHECK.told("990", x, x.astray(0, 99, 1), Float.floatToRawIntBits(990.0f));
        CHECK.told("10", x, x.astray(0, 101, 1), Float.floatToRawIntBits(10.0f));
        CHECK.told("7", x, x.astray(1, 1, 1), Float.floatToRawIntBits(7.0f));
    }

    /** As % of doubles tells, cast to a float: also where a TICK is no whole number, and where little is left. */
    static void promise47_asDoubles() {
        FrameRound x = Check.planned(PLAN);
        int[] hz = {3, 7, 9, 11, 3000, 7000, 65536, 99999, 100000};
        int[] n = {1, 2, 3, 11, 143, 999, 7777, 65536, 99999, 100000};
        for (int h : hz) {
            for (int k : n) {
                float due = (float) ((double) (7 * k) % (1000.0 / (double) h));
                CHECK.told("hz " + h + " n " + k, x, x.astray(1, k, h), Float.floatToRawIntBits(due));
            }
        }
    }

    /** 10 by 0.01 as doubles: what is left over is almost a TICK, as 0.01 is a little more than a hundredth. */
    static void promise47_almostATick() {
        FrameRound x = Check.planned(PLAN);
        float due = (float) (10.0 % 0.01);
        CHECK.due("not 0", due > 0.009f, true);
        CHECK.told("almost 0.01", x, x.astray(0, 1, 100000), Float.floatToRawIntBits(due));
    }
}
