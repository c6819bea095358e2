/** Promises 21 to 28: hasTable, pieces, swaps, share, begins, finishes, slack, openAt. */
public final class TablesTest {
    private static final Check CHECK = new Check("TablesTest");
    private static final String A =
        Check.mode(10, 2) + Check.task(0, 20, 4, 20) + Check.task(0, 40, 12, 30) + Check.task(5, 20, 3, 15);

    public static void main(String[] args) {
        plain();
        tidied();
        tidiedAgain();
        tidiedBehindAndAhead();
        room();
        order();
        withoutTasks();
        open();
        wrong();
        CHECK.end();
    }

    private static void table(FrameRound x, int m, int[][] shares) {
        for (int j = 0; j < shares.length; j++) {
            for (int k = 0; k < shares[j].length; k++) {
                CHECK.told("24 share " + j + " " + k, x, x.share(m, j, k), shares[j][k]);
            }
        }
    }

    private static void slacks(FrameRound x, int m, int... slacks) {
        for (int k = 0; k < slacks.length; k++) {
            CHECK.told("27 slack " + k, x, x.slack(m, k), slacks[k]);
        }
    }

    private static void plain() {
        FrameRound x = Check.planned(A);
        CHECK.told("21 hasTable", x, x.hasTable(0), 1);
        CHECK.told("22 pieces", x, x.pieces(0), 7);
        CHECK.told("23 swaps", x, x.swaps(0), 0);
        table(x, 0, new int[][] {{4, 0, 0, 0}, {4, 5, 3, 0}, {0, 3, 0, 0}, {0, 0, 4, 0}, {0, 0, 0, 3}});
        slacks(x, 0, 0, 0, 1, 5);
        int[][] begins = {{0, -2, -2, -2}, {4, 13, 20, -2}, {-2, 10, -2, -2}, {-2, -2, 23, -2}, {-2, -2, -2, 30}};
        int[] finishes = {4, 23, 13, 27, 33};
        for (int j = 0; j < 5; j++) {
            for (int k = 0; k < 4; k++) {
                CHECK.told("25 begins " + j + " " + k, x, x.begins(0, j, k), begins[j][k]);
            }
            CHECK.told("26 finishes " + j, x, x.finishes(0, j), finishes[j]);
        }
        // JOBS 2 and 4 are released ahead of the FRAME that they are in.
        int[] open = {0, 2 + 4, 2, 16};
        for (int k = 0; k < 4; k++) {
            CHECK.told("28 openAt " + k, x, x.openAt(0, k), open[k]);
        }
    }

    /** 6 and 7 UNITS: 6 | 4, 3 first; then 4 go behind to where 3 are. */
    private static void tidied() {
        FrameRound x = Check.planned(Check.mode(10, 0) + Check.task(0, 40, 6, 40) + Check.task(0, 40, 7, 40));
        CHECK.told("23 once", x, x.swaps(0), 1);
        CHECK.told("22 pieces", x, x.pieces(0), 2);
        table(x, 0, new int[][] {{6, 0, 0, 0}, {0, 7, 0, 0}});
        slacks(x, 0, 4, 3, 10, 10);
        CHECK.told("26 finishes", x, x.finishes(0, 1), 17);
        CHECK.told("25 begins", x, x.begins(0, 1, 1), 10);
        CHECK.told("25 no more", x, x.begins(0, 1, 0), -2);
    }

    /** 6 | 4, 3 | 7, 1: JOB 1 goes to FRAME 1? There is no room for 4 there: JOB 2 goes to 2, then JOB 1 to 1. */
    private static void tidiedAgain() {
        FrameRound x = Check.planned(Check.mode(10, 0) + Check.task(0, 40, 6, 40) + Check.task(0, 40, 7, 40)
            + Check.task(0, 40, 8, 40));
        CHECK.told("23 twice", x, x.swaps(0), 2);
        CHECK.told("22 pieces", x, x.pieces(0), 3);
        table(x, 0, new int[][] {{6, 0, 0, 0}, {0, 7, 0, 0}, {0, 0, 8, 0}});
        slacks(x, 0, 4, 3, 2, 10);
    }

    /** Of several the least a, then the least b. */
    private static void tidiedBehindAndAhead() {
        // 3 FRAMES of 5; a JOB of 3, one of 9: 2, 5, 2 UNITS: none has room but the last: 2 go there.
        FrameRound x = Check.planned(Check.mode(5, 0) + Check.task(0, 15, 3, 15) + Check.task(0, 15, 9, 15));
        table(x, 0, new int[][] {{3, 0, 0}, {0, 5, 4}});
        CHECK.told("23 behind", x, x.swaps(0), 1);
        slacks(x, 0, 2, 0, 1);
        // FRAMES of 10, 3 JOBS: 7 at once; 12 with 3, 9 ..; 1 that is due first keeps FRAME 1 from being full.
        FrameRound y = Check.planned(Check.mode(10, 0) + Check.task(0, 30, 7, 10) + Check.task(0, 30, 5, 30)
            + Check.task(10, 30, 9, 10));
        // JOB 1: 3 in FRAME 0, then 1 (9 of 10 are another's), then 1: 3 go behind to FRAME 2, and 1 too.
        table(y, 0, new int[][] {{7, 0, 0}, {0, 0, 5}, {0, 9, 0}});
        CHECK.told("23 two times", y, y.swaps(0), 2);
        // RESERVE leaves ROOM for 5: 2 | 3, 1: FRAME 1 has 4 left, FRAME 0 none: 3 go to FRAME 1.
        FrameRound z = Check.planned(Check.mode(10, 5) + Check.task(0, 20, 2, 20) + Check.task(0, 20, 4, 20));
        table(z, 0, new int[][] {{2, 0}, {0, 4}});
        CHECK.told("23 the least a", z, z.swaps(0), 1);
        // JOB 0 itself: 3 of 4 are taken by a later one with a narrow WINDOW: 1, 4, 2 first; FRAME 2 has just 1 left.
        FrameRound first = Check.planned(Check.mode(4, 0) + Check.task(0, 12, 7, 12) + Check.task(0, 12, 3, 4));
        table(first, 0, new int[][] {{0, 4, 3}, {3, 0, 0}});
        CHECK.told("23 JOB 0", first, first.swaps(0), 1);
        // 4 in FRAME 0, 2 in 1: JOB 1 has 2 there and 2 in 2 ..: SLACK is just its UNITS.
        FrameRound just = Check.planned(Check.mode(4, 0) + Check.task(0, 12, 6, 8) + Check.task(0, 12, 4, 12));
        table(just, 0, new int[][] {{4, 2, 0}, {0, 0, 4}});
        CHECK.told("23 SLACK is just enough", just, just.swaps(0), 1);
        // 5, 2 | 3, 3 (of 5): JOB 0 can't; JOB 1 goes from 1 to 2; then JOB 0 has no room for 5, but 2 not either.
        FrameRound last = Check.planned(Check.mode(5, 0) + Check.task(0, 15, 7, 15) + Check.task(0, 15, 6, 15));
        table(last, 0, new int[][] {{5, 2, 0}, {0, 3, 3}});
        CHECK.told("23 none", last, last.swaps(0), 0);
    }

    /** Later JOBS get what they need, even if the earlier ones must take less, or later FRAMES. */
    private static void room() {
        FrameRound x = Check.planned(Check.mode(4, 0) + Check.task(0, 24, 10, 24) + Check.task(0, 24, 7, 8)
            + Check.task(8, 24, 3, 4));
        // FRAMES 0, 1 have 8, of which 7 are JOB 1's; FRAME 2 has 1 beside JOB 2's 3.
        table(x, 0, new int[][] {{1, 0, 1, 4, 4, 0}, {3, 4, 0, 0, 0, 0}, {0, 0, 3, 0, 0, 0}});
        CHECK.told("23 no room to tidy", x, x.swaps(0), 0);
        CHECK.told("22 pieces", x, x.pieces(0), 7);
        slacks(x, 0, 0, 0, 0, 0, 0, 4);
        FrameRound y = Check.planned(Check.mode(9, 0) + Check.task(0, 20, 3, 20) + ";"
            + Check.mode(4, 2) + Check.task(0, 8, 5, 8) + ";" + Check.mode(20, 0) + Check.task(1, 20, 3, 19));
        CHECK.told("21 the ROUND is no multiple", y, y.hasTable(0), 0);
        CHECK.told("21 it doesn't fit", y, y.hasTable(1), 0);
        CHECK.told("21 an empty WINDOW", y, y.hasTable(2), 0);
    }

    /** By DUE, of like ones by numbers. */
    private static void order() {
        FrameRound x = Check.planned(Check.mode(20, 0) + Check.task(0, 20, 1, 20) + Check.task(0, 40, 2, 40)
            + Check.task(0, 20, 3, 20) + Check.task(0, 40, 4, 21) + Check.task(0, 40, 5, 40));
        // In FRAME 0: JOBS 0 and 2 (due 20), 3 (21), 1 and 4 (40); in FRAME 1: JOBS 5 and 6.
        int[] begins = {0, 8, 1, 4, 10, 20, 21};
        int[] cost = {1, 2, 3, 4, 5, 1, 3};
        for (int j = 0; j < 7; j++) {
            int k = j < 5 ? 0 : 1;
            CHECK.told("25 order " + j, x, x.begins(0, j, k), begins[j]);
            CHECK.told("26 order " + j, x, x.finishes(0, j), begins[j] + cost[j]);
            CHECK.told("25 not there " + j, x, x.begins(0, j, 1 - k), -2);
        }
    }

    private static void withoutTasks() {
        FrameRound x = Check.planned(Check.mode(10, 9) + ";" + Check.mode(4, 0));
        CHECK.told("21 without TASKS", x, x.hasTable(0), 1);
        CHECK.told("22 without TASKS", x, x.pieces(0), 0);
        CHECK.told("23 without TASKS", x, x.swaps(0), 0);
        slacks(x, 0, 1);
        slacks(x, 1, 4);
        CHECK.told("28 without TASKS", x, x.openAt(0, 0), 0);
        CHECK.refused("24 no JOB", x, x.share(0, 0, 0), 1);
        CHECK.refused("27 no FRAME", x, x.slack(0, 1), 1);
    }

    private static void open() {
        // JOB 0: 3 UNITS up to 24, JOB 1 from 4 on; ROOM is 1.
        FrameRound x = Check.planned(Check.mode(4, 3) + Check.task(0, 24, 3, 24) + Check.task(4, 24, 2, 20));
        table(x, 0, new int[][] {{1, 1, 1, 0, 0, 0}, {0, 0, 0, 1, 1, 0}});
        // At 4 JOB 1 is released, not ahead of it; at 8 it is OPEN though it hasn't begun.
        int[] open = {0, 1, 3, 2, 2, 0};
        for (int k = 0; k < 6; k++) {
            CHECK.told("28 openAt " + k, x, x.openAt(0, k), open[k]);
        }
    }

    private static void wrong() {
        FrameRound none = new FrameRound();
        refused(none, 0, 0, 0, 1);
        CHECK.refused("21 without a PLAN", none, none.hasTable(0), 1);
        FrameRound x = Check.planned(A + ";" + Check.mode(9, 0) + Check.task(0, 20, 3, 20) + ";"
            + Check.mode(60, 0) + Check.task(0, 20, 3, 20));
        refused(x, 3, 0, 0, 1);
        refused(x, -1, 0, 0, 1);
        CHECK.refused("21 no mode", x, x.hasTable(3), 1);
        CHECK.refused("21 no mode", x, x.hasTable(-1), 1);
        refused(x, 1, 0, 0, 5);
        CHECK.told("21 no TABLE", x, x.hasTable(1), 0);
        for (int m = 0; m < 2; m++) {
            int jobs = m == 0 ? 5 : 1;
            int frames = m == 0 ? 4 : 2;
            int[][] wrong = {{-1, 0}, {jobs, 0}, {0, -1}, {0, frames}, {Integer.MAX_VALUE, Integer.MIN_VALUE}};
            for (int[] w : wrong) {
                CHECK.refused("24 no such", x, x.share(m, w[0], w[1]), 1);
                CHECK.refused("25 no such", x, x.begins(m, w[0], w[1]), 1);
                if (w[1] != 0) {
                    CHECK.refused("27 no such", x, x.slack(m, w[1]), 1);
                    CHECK.refused("28 no such", x, x.openAt(m, w[1]), 1);
                } else {
                    CHECK.refused("26 no such", x, x.finishes(m, w[0]), 1);
                }
            }
        }
        CHECK.refused("27 no FRAMES at all", x, x.slack(2, 0), 1);
        CHECK.refused("26 no TABLE", x, x.finishes(2, 0), 5);
    }

    private static void refused(FrameRound x, int m, int j, int k, int number) {
        CHECK.refused("22", x, x.pieces(m), number);
        CHECK.refused("23", x, x.swaps(m), number);
        CHECK.refused("24", x, x.share(m, j, k), number);
        CHECK.refused("25", x, x.begins(m, j, k), number);
        CHECK.refused("26", x, x.finishes(m, j), number);
        CHECK.refused("27", x, x.slack(m, k), number);
        CHECK.refused("28", x, x.openAt(m, k), number);
    }
}
