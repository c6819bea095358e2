/** Boundary cases of promises 6 to 9 and of what they rest on in Terms II: ROUND, JOBS, FRAMES, WINDOWS. */
public final class ModesEdgesTest {
    private static final Check CHECK = new Check("ModesEdgesTest");
    private static final int[] FAR = {-1, Integer.MIN_VALUE, Integer.MAX_VALUE};

    public static void main(String[] args) {
        CHECK.runAll(ModesEdgesTest.class);
        CHECK.end();
    }

    private static String modes(int n) {
        StringBuilder text = new StringBuilder(Check.mode(10, 0));
        for (int m = 1; m < n; m++) {
            text.append(';').append(Check.mode(10 + m, m));
        }
        return text.toString();
    }

    // ---- promise 6

    static void promise06_theLastModeAndTheNext() {
        for (int n = 1; n <= 3; n++) {
            FrameRound x = Check.planned(modes(n));
            CHECK.told("the first", x, x.mode(0, 0), 10);
            CHECK.told("the last", x, x.mode(n - 1, 1), n - 1);
            CHECK.refused("the next", x, x.mode(n, 0), 1);
            for (int m : FAR) {
                CHECK.refused("mode " + m, x, x.mode(m, 0), 1);
            }
        }
    }

    static void promise06_theLastWhatAndTheNext() {
        FrameRound x = Check.planned(Check.mode(10, 2) + Check.task(0, 20, 3, 20));
        int[] due = {10, 2, 1, 20, 1, 2, 3};
        for (int what = 0; what < due.length; what++) {
            CHECK.told("what " + what, x, x.mode(0, what), due[what]);
        }
        CHECK.refused("the next", x, x.mode(0, 7), 1);
        for (int what : FAR) {
            CHECK.refused("what " + what, x, x.mode(0, what), 1);
        }
    }

    static void promise06_withoutAPlan() {
        FrameRound x = new FrameRound();
        CHECK.refused("mode 0", x, x.mode(0, 0), 1);
        CHECK.refused("mode 0, no such what", x, x.mode(0, 7), 1);
    }

    /** The ROUND is the FRAME then; there are no JOBS. */
    static void promise06_noTasks() {
        int[] frames = {4, 10, 59, 60};
        for (int frame : frames) {
            FrameRound x = Check.planned(Check.mode(frame, 0));
            int[] due = {frame, 0, 0, frame, 0, 1, 0};
            for (int what = 0; what < due.length; what++) {
                CHECK.told("FRAME " + frame + " what " + what, x, x.mode(0, what), due[what]);
            }
        }
    }

    static void promise06_theRoundOfOneTaskIsItsPeriod() {
        int[] periods = {1, 2, 59, 60};
        for (int period : periods) {
            FrameRound x = Check.planned(Check.mode(10, 0) + Check.task(0, period, 1, 1));
            CHECK.told("ROUND", x, x.mode(0, 3), period);
            CHECK.told("JOBS", x, x.mode(0, 4), 1);
        }
    }

    static void promise06_theLeastCommonMultiple() {
        FrameRound x = Check.planned(Check.mode(4, 0) + Check.task(0, 4, 1, 4) + Check.task(0, 6, 1, 6) + ";"
            + Check.mode(4, 0) + Check.task(0, 6, 1, 6) + Check.task(0, 12, 1, 12) + ";"
            + Check.mode(4, 0) + Check.task(0, 5, 1, 5) + Check.task(0, 7, 1, 7));
        CHECK.told("of 4 and 6", x, x.mode(0, 3), 12);
        CHECK.told("of 6 and 12", x, x.mode(1, 3), 12);
        CHECK.told("of 5 and 7", x, x.mode(2, 3), 35);
        CHECK.told("JOBS of 5 and 7", x, x.mode(2, 4), 12);
    }

    /** As many as are whole in the ROUND. */
    static void promise06_framesThatAreWhole() {
        int[][] due = {{4, 5}, {6, 3}, {7, 2}, {9, 2}, {10, 2}, {11, 1}, {19, 1}, {20, 1}, {21, 0}, {60, 0}};
        for (int[] d : due) {
            FrameRound x = Check.planned(Check.mode(d[0], 0) + Check.task(0, 20, 1, 20));
            CHECK.told("FRAME " + d[0], x, x.mode(0, 5), d[1]);
        }
        FrameRound x = Check.planned(Check.mode(4, 0) + Check.task(0, 32, 1, 32) + Check.task(0, 48, 1, 48));
        CHECK.told("the most", x, x.mode(0, 5), 24);
    }

    static void promise06_allCosts() {
        FrameRound x = Check.planned(Check.mode(4, 0) + Check.task(0, 2, 60, 1) + Check.task(0, 46, 60, 1));
        CHECK.told("the most", x, x.mode(0, 6), 24 * 60);
        x = Check.planned(Check.mode(4, 0) + Check.task(0, 2, 1, 1) + Check.task(0, 46, 60, 1));
        CHECK.told("of each JOB", x, x.mode(0, 6), 23 + 60);
    }

    // ---- promise 7

    static void promise07_theLastTaskAndTheNext() {
        StringBuilder text = new StringBuilder(Check.mode(10, 0));
        for (int n = 0; n <= 6; n++) {
            FrameRound x = Check.planned(text.toString());
            if (n > 0) {
                CHECK.told("the first", x, x.task(0, 0, 2), 1);
                CHECK.told("the last", x, x.task(0, n - 1, 2), n);
            }
            CHECK.refused("the next", x, x.task(0, n, 2), 1);
            for (int t : FAR) {
                CHECK.refused("TASK " + t, x, x.task(0, t, 0), 1);
            }
            text.append(Check.task(0, 20, n + 1, 20));
        }
    }

    static void promise07_theLastModeAndTheNext() {
        FrameRound x = Check.planned(Check.mode(10, 0) + Check.task(0, 20, 1, 20) + ";"
            + Check.mode(10, 0) + Check.task(0, 20, 2, 20) + Check.task(0, 20, 3, 20));
        CHECK.told("numbered in it", x, x.task(1, 1, 2), 3);
        CHECK.refused("as many as it has", x, x.task(0, 1, 2), 1);
        CHECK.refused("the next", x, x.task(2, 0, 2), 1);
        for (int m : FAR) {
            CHECK.refused("mode " + m, x, x.task(m, 0, 2), 1);
        }
        FrameRound none = new FrameRound();
        CHECK.refused("without a PLAN", none, none.task(0, 0, 0), 1);
    }

    static void promise07_theLastWhatAndTheNext() {
        FrameRound x = Check.planned(Check.mode(10, 0) + Check.task(3, 20, 4, 17));
        int[] due = {3, 20, 4, 17, 1, 17};
        for (int what = 0; what < due.length; what++) {
            CHECK.told("what " + what, x, x.task(0, 0, what), due[what]);
        }
        CHECK.refused("the next", x, x.task(0, 0, 6), 1);
        for (int what : FAR) {
            CHECK.refused("what " + what, x, x.task(0, 0, what), 1);
        }
    }

    static void promise07_jobs() {
        FrameRound x = Check.planned(Check.mode(4, 0) + Check.task(0, 2, 1, 1) + Check.task(45, 46, 1, 1));
        CHECK.told("the most", x, x.task(0, 0, 4), 23);
        CHECK.told("one, by its PHASE too", x, x.task(0, 1, 4), 1);
        x = Check.planned(Check.mode(4, 0) + Check.task(0, 1, 1, 1));
        CHECK.told("of 1", x, x.task(0, 0, 4), 1);
    }

    /** FRAME 6 and PERIOD 20: what is left over by 2; by 10 and 20: by 10; by 7 and 20: by 1, nothing ever. */
    static void promise07_reach() {
        int[][] due = {{6, 0, 10}, {6, 1, 11}, {6, 2, 10}, {6, 3, 11}, {10, 0, 10}, {10, 1, 19}, {10, 9, 11},
            {10, 10, 10}, {10, 11, 19}, {10, 19, 11}, {7, 0, 13}, {7, 1, 13}, {7, 6, 13}, {20, 0, 20}, {20, 1, 39},
            {20, 19, 21}, {60, 0, 100}, {60, 19, 101}, {4, 0, 4}, {4, 3, 5}, {4, 4, 4}};
        for (int[] d : due) {
            FrameRound x = Check.planned(Check.mode(d[0], 0) + Check.task(d[1], 20, 1, 1));
            CHECK.told("FRAME " + d[0] + " PHASE " + d[1], x, x.task(0, 0, 5), d[2]);
        }
    }

    // ---- promise 8

    /** By RELEASE, of like ones by TASK. */
    static void promise08_numbers() {
        FrameRound x = Check.planned(Check.mode(5, 0) + Check.task(5, 10, 1, 5) + Check.task(0, 5, 2, 5)
            + Check.task(5, 20, 3, 15));
        int[] task = {1, 0, 1, 2, 1, 0, 1};
        int[] release = {0, 5, 5, 5, 10, 15, 15};
        int[] due = {5, 10, 10, 20, 15, 20, 20};
        int[] cost = {2, 1, 2, 3, 2, 1, 2};
        for (int j = 0; j < task.length; j++) {
            CHECK.told("TASK " + j, x, x.job(0, j, 0), task[j]);
            CHECK.told("RELEASE " + j, x, x.job(0, j, 1), release[j]);
            CHECK.told("DUE " + j, x, x.job(0, j, 2), due[j]);
            CHECK.told("COST " + j, x, x.job(0, j, 3), cost[j]);
        }
        CHECK.refused("the next", x, x.job(0, 7, 0), 1);
    }

    static void promise08_24Jobs() {
        FrameRound x = Check.planned(Check.mode(4, 0) + Check.task(1, 2, 1, 1) + Check.task(0, 46, 5, 46));
        CHECK.told("the first", x, x.job(0, 0, 0), 1);
        CHECK.told("the last's TASK", x, x.job(0, 23, 0), 0);
        CHECK.told("the last's RELEASE", x, x.job(0, 23, 1), 45);
        CHECK.told("the last's DUE", x, x.job(0, 23, 2), 46);
        CHECK.refused("the next", x, x.job(0, 24, 0), 1);
    }

    static void promise08_noneSuch() {
        FrameRound x = Check.planned(Check.mode(10, 0) + Check.task(0, 20, 1, 20) + ";" + Check.mode(10, 0));
        CHECK.told("the only one", x, x.job(0, 0, 3), 1);
        CHECK.refused("the next", x, x.job(0, 1, 3), 1);
        CHECK.refused("of none", x, x.job(1, 0, 0), 1);
        CHECK.refused("no such mode", x, x.job(2, 0, 0), 1);
        CHECK.told("the last what", x, x.job(0, 0, 5), 1);
        CHECK.refused("the next what", x, x.job(0, 0, 6), 1);
        for (int far : FAR) {
            CHECK.refused("mode " + far, x, x.job(far, 0, 0), 1);
            CHECK.refused("JOB " + far, x, x.job(0, far, 0), 1);
            CHECK.refused("what " + far, x, x.job(0, 0, far), 1);
        }
        FrameRound none = new FrameRound();
        CHECK.refused("without a PLAN", none, none.job(0, 0, 0), 1);
    }

    /** FRAMES of 5 in 20: from no earlier than the RELEASE up to no later than the DUE. */
    static void promise08_windows() {
        int[][] due = {{0, 5, 0, 0}, {0, 4, -2, -2}, {0, 6, 0, 0}, {0, 9, 0, 0}, {0, 10, 0, 1}, {1, 9, 1, 1},
            {1, 8, -2, -2}, {4, 6, 1, 1}, {4, 5, -2, -2}, {5, 5, 1, 1}, {5, 15, 1, 3}, {6, 14, 2, 3}, {6, 13, 2, 2},
            {15, 5, 3, 3}, {15, 4, -2, -2}, {16, 4, -2, -2}, {19, 1, -2, -2}, {0, 20, 0, 3}, {0, 19, 0, 2}};
        for (int[] d : due) {
            FrameRound x = Check.planned(Check.mode(5, 0) + Check.task(d[0], 20, 1, d[1]));
            CHECK.told("from " + d[0] + " within " + d[1] + " the first", x, x.job(0, 0, 4), d[2]);
            CHECK.told("from " + d[0] + " within " + d[1] + " the last", x, x.job(0, 0, 5), d[3]);
        }
    }

    /** 20 has two whole FRAMES of 9, none of 21 and one of 20. */
    static void promise08_windowsByFramesThatAreWhole() {
        int[][] due = {{9, 0, 20, 0, 1}, {9, 9, 11, 1, 1}, {9, 10, 10, -2, -2}, {21, 0, 20, -2, -2}, {60, 0, 20, -2, -2},
            {20, 0, 20, 0, 0}, {20, 0, 19, -2, -2}, {20, 1, 19, -2, -2}};
        for (int[] d : due) {
            FrameRound x = Check.planned(Check.mode(d[0], 0) + Check.task(d[1], 20, 1, d[2]));
            CHECK.told("by " + d[0] + " from " + d[1] + " the first", x, x.job(0, 0, 4), d[3]);
            CHECK.told("by " + d[0] + " from " + d[1] + " the last", x, x.job(0, 0, 5), d[4]);
        }
    }

    static void promise08_theLastFrameOf24() {
        FrameRound x = Check.planned(Check.mode(4, 0) + Check.task(44, 48, 1, 4) + Check.task(0, 32, 1, 32));
        CHECK.told("RELEASE", x, x.job(0, 4, 1), 92);
        CHECK.told("DUE", x, x.job(0, 4, 2), 96);
        CHECK.told("the first", x, x.job(0, 4, 4), 23);
        CHECK.told("the last", x, x.job(0, 4, 5), 23);
    }

    // ---- promise 9

    static void promise09_none() {
        FrameRound x = Check.planned(Check.mode(10, 0) + ";" + Check.mode(10, 0) + Check.task(0, 60, 1, 60));
        CHECK.told("without TASKS", x, x.load(0), 0L);
        CHECK.told("the last", x, x.load(1), Double.doubleToRawLongBits(1.0 / 60.0));
        CHECK.refused("the next", x, x.load(2), 1);
        for (int m : FAR) {
            CHECK.refused("mode " + m, x, x.load(m), 1);
        }
        FrameRound none = new FrameRound();
        CHECK.refused("without a PLAN", none, none.load(0), 1);
    }

    /** 0.1 and 0.2 and 0.3 are 0.6000000000000001, but 0.1 and 0.5, or 0.3 and 0.2 and 0.1, are 0.6. */
    static void promise09_taskByTask() {
        FrameRound x = Check.planned(Check.mode(10, 0) + Check.task(0, 10, 1, 10) + Check.task(0, 10, 2, 10)
            + Check.task(0, 10, 3, 10) + ";"
            + Check.mode(10, 0) + Check.task(0, 10, 3, 10) + Check.task(0, 10, 2, 10) + Check.task(0, 10, 1, 10));
        CHECK.told("up", x, x.load(0), 4603579539098121012L);
        CHECK.told("down", x, x.load(1), 4603579539098121011L);
    }

    static void promise09_theLeastAndTheMost() {
        FrameRound x = Check.planned(Check.mode(10, 0) + Check.task(0, 60, 1, 60));
        CHECK.told("the least", x, x.load(0), 0x3f91111111111111L);
        StringBuilder text = new StringBuilder(Check.mode(10, 0));
        for (int t = 0; t < 6; t++) {
            text.append(Check.task(0, 1, 60, 1));
        }
        x = Check.planned(text.toString());
        CHECK.told("the most: 360", x, x.load(0), 0x4076800000000000L);
        x = Check.planned(Check.mode(10, 0) + Check.task(0, 60, 60, 60));
        CHECK.told("just 1", x, x.load(0), 0x3ff0000000000000L);
    }
}
