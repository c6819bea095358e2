/** Promises 6 to 9: mode, task, job, load. */
public final class ModesTest {
    private static final Check CHECK = new Check("ModesTest");

    public static void main(String[] args) {
        FrameRound x = Check.planned(
            Check.mode(10, 2) + Check.task(0, 20, 4, 20) + Check.task(0, 40, 12, 30) + Check.task(5, 20, 3, 15)
            + ";" + Check.mode(12, 0)
            + ";" + Check.mode(9, 4) + Check.task(2, 6, 1, 3) + Check.task(0, 4, 2, 4) + Check.task(2, 12, 5, 9));
        mode(x);
        task(x);
        job(x);
        load(x);
        wrong(x);
        CHECK.end();
    }

    private static void mode(FrameRound x) {
        int[][] due = {{10, 2, 3, 40, 5, 4, 26}, {12, 0, 0, 12, 0, 1, 0}, {9, 4, 3, 12, 6, 1, 13}};
        for (int m = 0; m < 3; m++) {
            for (int what = 0; what < 7; what++) {
                CHECK.told("6 mode " + m + " " + what, x, x.mode(m, what), due[m][what]);
            }
        }
        FrameRound y = Check.planned(Check.mode(60, 0) + Check.task(0, 20, 1, 20));
        CHECK.told("6 no FRAME is whole in the ROUND", y, y.mode(0, 5), 0);
        y = Check.planned(Check.mode(4, 0) + Check.task(0, 48, 1, 48) + Check.task(0, 32, 1, 32));
        CHECK.told("6 the most FRAMES", y, y.mode(0, 5), 24);
        y = Check.planned(Check.mode(9, 0) + Check.task(0, 40, 1, 40));
        CHECK.told("6 FRAMES that are whole", y, y.mode(0, 5), 4);
    }

    private static void task(FrameRound x) {
        // REACH: 2 * 9 less 2 (2 left over by 3), less 1 (nothing left over by 1), less 2 (2 by 3).
        int[][] due = {{2, 6, 1, 3, 2, 16}, {0, 4, 2, 4, 3, 17}, {2, 12, 5, 9, 1, 16}};
        for (int t = 0; t < 3; t++) {
            for (int what = 0; what < 6; what++) {
                CHECK.told("7 task " + t + " " + what, x, x.task(2, t, what), due[t][what]);
            }
        }
        CHECK.told("7 REACH with nothing left over", x, x.task(0, 0, 5), 10);
        CHECK.told("7 REACH with 5 left over", x, x.task(0, 2, 5), 15);
    }

    private static void job(FrameRound x) {
        int[][] due = {
            {0, 0, 20, 4, 0, 1}, {1, 0, 30, 12, 0, 2}, {2, 5, 20, 3, 1, 1}, {0, 20, 40, 4, 2, 3}, {2, 25, 40, 3, 3, 3}};
        for (int j = 0; j < due.length; j++) {
            for (int what = 0; what < 6; what++) {
                CHECK.told("8 job " + j + " " + what, x, x.job(0, j, what), due[j][what]);
            }
        }
        // By RELEASE, of like ones by TASK; no WINDOW holds a FRAME of 9.
        int[][] other = {{1, 0, 4}, {0, 2, 5}, {2, 2, 11}, {1, 4, 8}, {0, 8, 11}, {1, 8, 12}};
        for (int j = 0; j < other.length; j++) {
            for (int what = 0; what < 3; what++) {
                CHECK.told("8 job " + j + " " + what, x, x.job(2, j, what), other[j][what]);
            }
            CHECK.told("8 no first FRAME", x, x.job(2, j, 4), -2);
            CHECK.told("8 no last FRAME", x, x.job(2, j, 5), -2);
        }
    }

    private static void load(FrameRound x) {
        CHECK.told("9 load", x, x.load(0), Double.doubleToLongBits(4 / 20.0 + 12 / 40.0 + 3 / 20.0));
        CHECK.told("9 load of none", x, x.load(1), 0L);
        CHECK.told("9 load of thirds", x, x.load(2), Double.doubleToLongBits(1 / 6.0 + 2 / 4.0 + 5 / 12.0));
        for (int period = 1; period <= 60; period++) {
            FrameRound y = Check.planned(Check.mode(4, 0) + Check.task(0, period, 1, 1)
                + Check.task(0, period, 60, 1) + Check.task(0, period, period, 1));
            double sum = 1.0 / period + 60.0 / period + (double) period / period;
            CHECK.told("9 load by " + period, y, y.load(0), Double.doubleToLongBits(sum));
        }
    }

    private static void wrong(FrameRound x) {
        FrameRound none = new FrameRound();
        CHECK.refused("6 without a PLAN", none, none.mode(0, 0), 1);
        CHECK.refused("7 without a PLAN", none, none.task(0, 0, 0), 1);
        CHECK.refused("8 without a PLAN", none, none.job(0, 0, 0), 1);
        CHECK.refused("9 without a PLAN", none, none.load(0), 1);
        int[] noModes = {-1, 3, Integer.MIN_VALUE, Integer.MAX_VALUE};
        for (int m : noModes) {
            CHECK.refused("6 no mode", x, x.mode(m, 0), 1);
            CHECK.refused("7 no mode", x, x.task(m, 0, 0), 1);
            CHECK.refused("8 no mode", x, x.job(m, 0, 0), 1);
            CHECK.refused("9 no mode", x, x.load(m), 1);
            CHECK.refused("7 no TASK", x, x.task(0, m, 0), 1);
            CHECK.refused("8 no JOB", x, x.job(0, m == 3 ? 5 : m, 0), 1);
            CHECK.refused("6 no what", x, x.mode(0, m == 3 ? 7 : m), 1);
            CHECK.refused("7 no what", x, x.task(0, 0, m == 3 ? 6 : m), 1);
            CHECK.refused("8 no what", x, x.job(0, 0, m == 3 ? 6 : m), 1);
        }
        CHECK.refused("7 a mode without TASKS", x, x.task(1, 0, 0), 1);
        CHECK.refused("8 a mode without JOBS", x, x.job(1, 0, 0), 1);
    }
}
