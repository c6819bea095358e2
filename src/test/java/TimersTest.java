/** Promises 46 and 47: ticks, astray. */
public final class TimersTest {
    private static final Check CHECK = new Check("TimersTest");

    public static void main(String[] args) {
        FrameRound x = planned();
        CHECK.told("46 ticks", x, x.ticks(0, 3, 1000), 30);
        CHECK.told("46 ticks of half a UNIT", x, x.ticks(0, 3, 2000), 60);
        CHECK.told("46 ticks of a third", x, x.ticks(1, 1, 3000), (long) (7.0 / (1000.0 / 3000)));
        CHECK.told("46 no FRAMES", x, x.ticks(0, 0, 1), 0);
        CHECK.told("46 less than a TICK", x, x.ticks(0, 99, 1), 0);
        CHECK.told("46 just a TICK", x, x.ticks(0, 100, 1), 1);
        CHECK.told("46 the most", x, x.ticks(2, 100000, 100000), 600000000L);
        CHECK.told("47 nothing left over", x, x.astray(0, 100, 1), 0);
        CHECK.told("47 all left over", x, x.astray(0, 99, 1), Float.floatToIntBits(990.0f));
        CHECK.told("47 of none", x, x.astray(0, 0, 1), 0);
        many();
        wrong(x);
        CHECK.end();
    }

    private static FrameRound planned() {
        return Check.planned(Check.mode(10, 0) + ";" + Check.mode(7, 0) + ";" + Check.mode(60, 0));
    }

    private static void many() {
        int[] hz = {1, 2, 3, 7, 9, 11, 60, 97, 333, 999, 1000, 1001, 3000, 32768, 44100, 65537, 99999, 100000};
        int[] n = {1, 2, 3, 5, 10, 99, 101, 1000, 12345, 99999, 100000};
        int[] frame = {10, 7, 60};
        for (int m = 0; m < 3; m++) {
            for (int h : hz) {
                FrameRound x = planned();
                for (int k : n) {
                    double all = (double) (k * frame[m]);
                    double tick = 1000.0 / h;
                    CHECK.told("46 " + m + " " + k + " " + h, x, x.ticks(m, k, h), (long) (all / tick));
                    CHECK.told("47 " + m + " " + k + " " + h, x, x.astray(m, k, h),
                        Float.floatToIntBits((float) (all % tick)));
                }
            }
        }
    }

    private static void wrong(FrameRound x) {
        FrameRound none = new FrameRound();
        CHECK.refused("46 without a PLAN", none, none.ticks(0, 1, 1), 1);
        CHECK.refused("47 without a PLAN", none, none.astray(0, 1, 1), 1);
        int[][] wrong = {{-1, 1, 1, 1}, {3, 1, 1, 1}, {3, -1, 0, 1}, {0, -1, 1, 2}, {0, 100001, 1, 2}, {0, 1, 0, 2},
            {0, 1, 100001, 2}, {0, 1, -5, 2}, {0, Integer.MIN_VALUE, 1, 2}, {0, 1, Integer.MIN_VALUE, 2},
            {0, Integer.MAX_VALUE, Integer.MAX_VALUE, 2}};
        for (int[] w : wrong) {
            CHECK.refused("46 wrong", x, x.ticks(w[0], w[1], w[2]), w[3]);
            CHECK.refused("47 wrong", x, x.astray(w[0], w[1], w[2]), w[3]);
        }
    }
}
