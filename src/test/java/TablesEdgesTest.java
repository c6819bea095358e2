/** Boundary cases of promises 21 to 28 and of Terms III: the TABLE, how it is TIDIED, PIECES. */
public final class TablesEdgesTest {
    private static final Check CHECK = new Check("TablesEdgesTest");
    private static final int[] FAR = {-1, Integer.MIN_VALUE, Integer.MAX_VALUE};
    /** Two JOBS in three FRAMES of 4: 5 UNITS as 4 and 1, 2 behind that. */
    private static final String ZERO = Check.mode(4, 0) + Check.task(0, 12, 5, 12) + Check.task(4, 12, 2, 8);
    /** No TABLE: 12 has two whole FRAMES of 5. */
    private static final String ONE = Check.mode(5, 0) + Check.task(0, 12, 5, 12) + Check.task(4, 12, 2, 8);
    /** No TABLE, and no FRAMES. */
    private static final String TWO = Check.mode(60, 0) + Check.task(0, 12, 5, 12);

    public static void main(String[] args) {
        CHECK.runAll(TablesEdgesTest.class);
        CHECK.end();
    }

    private interface ByMode {
        int of(FrameRound x, int m);
    }

    private interface ByOne {
        int of(FrameRound x, int m, int i);
    }

    private interface ByTwo {
        int of(FrameRound x, int m, int j, int k);
    }

    /** 1 (m), then 5. */
    private static void modes(ByMode call) {
        FrameRound none = new FrameRound();
        CHECK.refused("without a PLAN", none, call.of(none, 0), 1);
        FrameRound x = Check.planned(ZERO + ";" + ONE + ";" + TWO);
        CHECK.refused("no TABLE", x, call.of(x, 1), 5);
        CHECK.refused("no FRAMES", x, call.of(x, 2), 5);
        CHECK.refused("the next", x, call.of(x, 3), 1);
        for (int m : FAR) {
            CHECK.refused("mode " + m, x, call.of(x, m), 1);
        }
    }

    /** 1 (m; a FRAME, too), then 5. */
    private static void frames(ByOne call) {
        FrameRound none = new FrameRound();
        CHECK.refused("without a PLAN", none, call.of(none, 0, 0), 1);
        FrameRound x = Check.planned(ZERO + ";" + ONE + ";" + TWO);
        CHECK.due("the last", call.of(x, 0, 2) != -1, true);
        CHECK.due("the last is told", x.trouble(), 0);
        CHECK.refused("the next", x, call.of(x, 0, 3), 1);
        CHECK.refused("no TABLE: the first", x, call.of(x, 1, 0), 5);
        CHECK.refused("no TABLE: the last", x, call.of(x, 1, 1), 5);
        CHECK.refused("no TABLE: the next, 1 ahead of 5", x, call.of(x, 1, 2), 1);
        CHECK.refused("no FRAMES: 1 ahead of 5", x, call.of(x, 2, 0), 1);
        CHECK.refused("the next mode", x, call.of(x, 3, 0), 1);
        for (int far : FAR) {
            CHECK.refused("mode " + far, x, call.of(x, far, 0), 1);
            CHECK.refused("FRAME " + far, x, call.of(x, 0, far), 1);
            CHECK.refused("no TABLE, FRAME " + far, x, call.of(x, 1, far), 1);
        }
    }

    /** 1 (m; a JOB, a FRAME, too), then 5. */
    private static void jobsAndFrames(ByTwo call) {
        frames((x, m, k) -> call.of(x, m, 0, k));
        FrameRound x = Check.planned(ZERO + ";" + ONE + ";" + TWO);
        CHECK.due("the last", call.of(x, 0, 1, 1) != -1, true);
        CHECK.refused("the next", x, call.of(x, 0, 2, 0), 1);
        CHECK.refused("no TABLE: the last", x, call.of(x, 1, 1, 1), 5);
        CHECK.refused("no TABLE: the next, 1 ahead of 5", x, call.of(x, 1, 2, 0), 1);
        for (int far : FAR) {
            CHECK.refused("JOB " + far, x, call.of(x, 0, far, 0), 1);
            CHECK.refused("no TABLE, JOB " + far, x, call.of(x, 1, far, 0), 1);
            CHECK.refused("both " + far, x, call.of(x, 0, far, far), 1);
        }
    }

    private static void table(FrameRound x, int[]... shares) {
        int pieces = 0;
        for (int j = 0; j < shares.length; j++) {
            for (int k = 0; k < shares[j].length; k++) {
                CHECK.told("24 share " + j + " " + k, x, x.share(0, j, k), shares[j][k]);
                pieces += shares[j][k] > 0 ? 1 : 0;
            }
        }
        CHECK.told("22 pieces", x, x.pieces(0), pieces);
        for (int k = 0; k < shares[0].length; k++) {
            int slack = x.mode(0, 0) - x.mode(0, 1);
            for (int[] share : shares) {
                slack -= share[k];
            }
            CHECK.told("27 slack " + k, x, x.slack(0, k), slack);
        }
    }

    // ---- promise 21

    static void promise21_numbers() {
        FrameRound none = new FrameRound();
        CHECK.refused("without a PLAN", none, none.hasTable(0), 1);
        FrameRound x = Check.planned(ZERO + ";" + ONE + ";" + TWO);
        CHECK.told("the first", x, x.hasTable(0), 1);
        CHECK.told("none is no refusal", x, x.hasTable(1), 0);
        CHECK.told("the last", x, x.hasTable(2), 0);
        CHECK.refused("the next", x, x.hasTable(3), 1);
        for (int m : FAR) {
            CHECK.refused("mode " + m, x, x.hasTable(m), 1);
        }
    }

    private static void has(String text, int due) {
        FrameRound x = Check.planned(text);
        CHECK.told(text, x, x.hasTable(0), due);
    }

    /** GOOD: none of 1, 8, 16. */
    static void promise21_good() {
        has(Check.mode(4, 0) + Check.task(0, 12, 12, 12), 1);
        has(Check.mode(4, 0) + Check.task(0, 12, 13, 12), 0);
        has(Check.mode(4, 1) + Check.task(0, 12, 9, 12), 1);
        has(Check.mode(4, 1) + Check.task(0, 12, 10, 12), 0);
        has(Check.mode(5, 0) + Check.task(0, 12, 1, 12), 0);
        has(Check.mode(12, 0) + Check.task(0, 12, 1, 12), 1);
        has(Check.mode(12, 0) + Check.task(0, 12, 1, 11), 0);
        has(Check.mode(24, 0) + Check.task(0, 12, 1, 12), 0);
        has(Check.mode(4, 0) + Check.task(1, 12, 1, 7), 1);
        has(Check.mode(4, 0) + Check.task(1, 12, 1, 6), 0);
        has(Check.mode(60, 59), 1);
        has(Check.mode(4, 0), 1);
    }

    // ---- promise 22

    static void promise22_numbers() {
        modes((x, m) -> x.pieces(m));
    }

    static void promise22_noneAndMany() {
        FrameRound x = Check.planned(Check.mode(4, 0) + ";" + Check.mode(4, 3) + Check.task(0, 60, 15, 60) + ";"
            + Check.mode(4, 0) + Check.task(0, 60, 60, 60));
        CHECK.told("without TASKS", x, x.pieces(0), 0);
        CHECK.told("one UNIT each", x, x.pieces(1), 15);
        CHECK.told("all FRAMES full", x, x.pieces(2), 15);
    }

    // ---- promise 23

    static void promise23_numbers() {
        modes((x, m) -> x.swaps(m));
    }

    private static void swaps(FrameRound x, int due) {
        CHECK.told("swaps", x, x.swaps(0), due);
    }

    static void promise23_none() {
        swaps(Check.planned(Check.mode(4, 0)), 0);
        swaps(Check.planned(Check.mode(4, 0) + Check.task(0, 12, 5, 12)), 0);
        swaps(Check.planned(Check.mode(4, 0) + Check.task(0, 12, 12, 12)), 0);
    }

    /** ROOM 3: JOB 0 has 1 in FRAME 0 beside JOB 1's 2, and 2 in FRAME 1, whose SLACK is just 1. */
    static void promise23_slackIsJustEnough() {
        FrameRound x = Check.planned(Check.mode(4, 1) + Check.task(0, 8, 3, 8) + Check.task(0, 8, 2, 4));
        table(x, new int[] {0, 3}, new int[] {2, 0});
        swaps(x, 1);
    }

    /** ROOM 3: JOB 0 has 2 in FRAME 0 beside JOB 1's 1, and 2 in FRAME 1, whose SLACK is 1: one too little. */
    static void promise23_slackIsOneTooLittle() {
        FrameRound x = Check.planned(Check.mode(4, 1) + Check.task(0, 8, 4, 8) + Check.task(0, 8, 1, 4));
        table(x, new int[] {2, 2}, new int[] {1, 0});
        swaps(x, 0);
    }

    /** JOB 0 goes behind, to FRAME 2; that makes SLACK for JOB 1, which goes ahead, to FRAME 0. */
    static void promise23_aheadAndBehind() {
        FrameRound x = Check.planned(Check.mode(5, 0) + Check.task(5, 15, 3, 5) + Check.task(0, 15, 4, 15)
            + Check.task(0, 15, 5, 10));
        table(x, new int[] {0, 0, 4}, new int[] {5, 0, 0}, new int[] {0, 3, 0});
        swaps(x, 2);
    }

    /** JOB 1 has 1, 3, 1 UNITS: the 1 of FRAME 0 go to FRAME 2, not the 3 of FRAME 1 (nor both). */
    static void promise23_theLeastFrame() {
        FrameRound x = Check.planned(Check.mode(4, 0) + Check.task(0, 16, 3, 12) + Check.task(0, 16, 5, 12)
            + Check.task(0, 16, 1, 8));
        table(x, new int[] {3, 0, 0, 0}, new int[] {0, 3, 2, 0}, new int[] {0, 1, 0, 0});
        swaps(x, 1);
    }

    /**
     * 8, 7 | 1, 5 | 1, 0, 5 | 2, 1 | 7 at first. JOB 2 leaves FRAME 2 with a SLACK of 1, which JOBS 1 and 3
     * could use: JOB 1 does.
     */
    static void promise23_theLeastJob() {
        FrameRound x = Check.planned(Check.mode(8, 0) + Check.task(0, 56, 15, 56) + Check.task(0, 56, 6, 40)
            + Check.task(0, 56, 6, 56) + Check.task(0, 56, 3, 32) + Check.task(0, 56, 7, 32));
        table(x, new int[] {8, 7, 0, 0, 0, 0, 0}, new int[] {0, 0, 6, 0, 0, 0, 0}, new int[] {0, 0, 0, 0, 6, 0, 0},
            new int[] {0, 0, 2, 1, 0, 0, 0}, new int[] {0, 0, 0, 7, 0, 0, 0});
        swaps(x, 2);
    }

    /** 6 | 4, 3 | 7, 1: JOB 2 goes first, since JOB 1 can't; then JOB 1 can. */
    static void promise23_againAndAgain() {
        FrameRound x = Check.planned(Check.mode(10, 0) + Check.task(0, 40, 6, 40) + Check.task(0, 40, 7, 40)
            + Check.task(0, 40, 8, 40));
        table(x, new int[] {6, 0, 0, 0}, new int[] {0, 7, 0, 0}, new int[] {0, 0, 8, 0});
        swaps(x, 2);
    }

    /** To a FRAME where it has UNITS, not to an empty one. */
    static void promise23_unitsInBoth() {
        FrameRound x = Check.planned(Check.mode(4, 0) + Check.task(0, 16, 6, 16));
        table(x, new int[] {4, 2, 0, 0});
        swaps(x, 0);
    }

    /** From one and the same FRAME to it there is no way, however much SLACK it has. */
    static void promise23_anotherFrame() {
        FrameRound x = Check.planned(Check.mode(10, 0) + Check.task(0, 20, 1, 20));
        table(x, new int[] {1, 0});
        swaps(x, 0);
    }

    static void promise23_anewByEachChange() {
        FrameRound x = Check.planned(Check.mode(4, 1) + Check.task(0, 8, 3, 8) + Check.task(0, 8, 2, 4));
        swaps(x, 1);
        x.recost(0, 0, 3);
        swaps(x, 1);
        x.recost(0, 1, 1);
        swaps(x, 1);
        table(x, new int[] {0, 3}, new int[] {1, 0});
        x.recost(0, 0, 4);
        swaps(x, 0);
        x.recost(0, 0, 1);
        swaps(x, 0);
    }

    // ---- promise 24

    static void promise24_numbers() {
        jobsAndFrames((x, m, j, k) -> x.share(m, j, k));
    }

    /** None in FRAMES ahead of its WINDOW, or behind it: told, not refused. */
    static void promise24_outsideTheWindow() {
        FrameRound x = Check.planned(Check.mode(4, 0) + Check.task(4, 12, 3, 4));
        table(x, new int[] {0, 3, 0});
    }

    /** As many as there can be: one more and JOB 1 (FRAMES 0, 1) or JOB 2 (FRAME 2) would lack one. */
    static void promise24_asManyAsThereCanBe() {
        FrameRound x = Check.planned(Check.mode(4, 0) + Check.task(0, 24, 10, 24) + Check.task(0, 24, 7, 8)
            + Check.task(8, 24, 3, 4));
        table(x, new int[] {1, 0, 1, 4, 4, 0}, new int[] {3, 4, 0, 0, 0, 0}, new int[] {0, 0, 3, 0, 0, 0});
        FrameRound y = Check.planned(Check.mode(4, 0) + Check.task(0, 24, 10, 24) + Check.task(0, 24, 8, 8)
            + Check.task(8, 24, 4, 4));
        table(y, new int[] {0, 0, 0, 4, 4, 2}, new int[] {4, 4, 0, 0, 0, 0}, new int[] {0, 0, 4, 0, 0, 0});
    }

    static void promise24_theLastJobInTheLastFrame() {
        FrameRound x = Check.planned(Check.mode(4, 0) + Check.task(44, 48, 4, 4) + Check.task(0, 32, 1, 32));
        CHECK.told("JOB 4 in FRAME 23", x, x.share(0, 4, 23), 4);
        CHECK.refused("FRAME 24", x, x.share(0, 4, 24), 1);
        CHECK.refused("JOB 5", x, x.share(0, 5, 23), 1);
    }

    // ---- promise 25

    static void promise25_numbers() {
        jobsAndFrames((x, m, j, k) -> x.begins(m, j, k));
    }

    /** JOBS 1 and 2 are due first, and alike; JOB 0 goes behind them. */
    static void promise25_byDueOfLikeOnesByNumber() {
        FrameRound x = Check.planned(Check.mode(20, 0) + Check.task(0, 40, 2, 40) + Check.task(0, 40, 3, 20)
            + Check.task(0, 40, 4, 20));
        int[] due = {7, 0, 3};
        for (int j = 0; j < 3; j++) {
            CHECK.told("JOB " + j, x, x.begins(0, j, 0), due[j]);
            CHECK.told("without one " + j, x, x.begins(0, j, 1), -2);
        }
        x.reframe(0, 40);
        CHECK.told("no TABLE", x, x.hasTable(0), 0);
        FrameRound y = Check.planned(Check.mode(20, 0) + Check.task(0, 40, 2, 39) + Check.task(0, 40, 3, 40)
            + Check.task(0, 40, 4, 40));
        int[] then = {0, 2, 5};
        for (int j = 0; j < 3; j++) {
            CHECK.told("by number " + j, y, y.begins(0, j, 0), then[j]);
        }
    }

    /** From the beginning of its FRAME on, whatever the RESERVE. */
    static void promise25_fromTheBeginning() {
        FrameRound x = Check.planned(Check.mode(4, 3) + Check.task(4, 12, 2, 8));
        CHECK.told("FRAME 0", x, x.begins(0, 0, 0), -2);
        CHECK.told("FRAME 1", x, x.begins(0, 0, 1), 4);
        CHECK.told("FRAME 2", x, x.begins(0, 0, 2), 8);
    }

    /** 4 in FRAME 0: JOBS 0, 1, 2, 3; JOB 4 with JOB 5 (due earlier) in FRAME 1; JOB 23 in the last. */
    static void promise25_24Jobs() {
        FrameRound x = Check.planned(Check.mode(4, 0) + Check.task(0, 8, 1, 8) + Check.task(0, 8, 1, 8)
            + Check.task(3, 8, 1, 5) + Check.task(0, 16, 1, 16) + Check.task(0, 24, 1, 24) + Check.task(0, 48, 1, 48));
        int[][] due = {{0, 0, 0}, {1, 0, 1}, {2, 0, 2}, {3, 0, 3}, {4, 1, 5}, {5, 1, 4}, {23, 11, 44}};
        for (int[] d : due) {
            CHECK.told("JOB " + d[0], x, x.begins(0, d[0], d[1]), d[2]);
        }
        CHECK.told("finishes", x, x.finishes(0, 23), 45);
    }

    static void promise25_at0() {
        FrameRound x = Check.planned(ZERO);
        CHECK.told("0 is a time", x, x.begins(0, 0, 0), 0);
    }

    // ---- promise 26

    static void promise26_numbers() {
        modes((x, m) -> x.finishes(m, 0));
        FrameRound x = Check.planned(ZERO + ";" + ONE + ";" + Check.mode(10, 0));
        CHECK.told("the last", x, x.finishes(0, 1), 7);
        CHECK.refused("the next", x, x.finishes(0, 2), 1);
        CHECK.refused("no TABLE: the last", x, x.finishes(1, 1), 5);
        CHECK.refused("no TABLE: the next, 1 ahead of 5", x, x.finishes(1, 2), 1);
        CHECK.refused("of none", x, x.finishes(2, 0), 1);
        for (int far : FAR) {
            CHECK.refused("JOB " + far, x, x.finishes(0, far), 1);
            CHECK.refused("no TABLE, JOB " + far, x, x.finishes(1, far), 1);
        }
    }

    /** The end of the ROUND at the latest. */
    static void promise26_atTheEnd() {
        FrameRound x = Check.planned(Check.mode(4, 0) + Check.task(0, 12, 12, 12) + ";"
            + Check.mode(4, 0) + Check.task(0, 12, 11, 12) + ";" + Check.mode(60, 0) + Check.task(0, 60, 60, 60));
        CHECK.told("full", x, x.finishes(0, 0), 12);
        CHECK.told("one less", x, x.finishes(1, 0), 11);
        CHECK.told("one FRAME", x, x.finishes(2, 0), 60);
    }

    /** The end of its last PIECE, behind those that are due earlier in that FRAME. */
    static void promise26_theLastPiece() {
        FrameRound x = Check.planned(Check.mode(4, 0) + Check.task(0, 12, 5, 12) + Check.task(4, 12, 2, 4));
        CHECK.told("behind JOB 1", x, x.begins(0, 0, 1), 6);
        CHECK.told("finishes", x, x.finishes(0, 0), 7);
        CHECK.told("JOB 1", x, x.finishes(0, 1), 6);
    }

    // ---- promise 27

    static void promise27_numbers() {
        frames((x, m, k) -> x.slack(m, k));
    }

    static void promise27_fullAndEmpty() {
        FrameRound x = Check.planned(Check.mode(10, 3) + Check.task(0, 30, 8, 30) + ";" + Check.mode(60, 59) + ";"
            + Check.mode(60, 0));
        CHECK.told("full", x, x.slack(0, 0), 0);
        CHECK.told("all but 1", x, x.slack(0, 1), 6);
        CHECK.told("empty", x, x.slack(0, 2), 7);
        CHECK.told("the least ROOM", x, x.slack(1, 0), 1);
        CHECK.told("the greatest", x, x.slack(2, 0), 60);
        CHECK.refused("one FRAME alone", x, x.slack(2, 1), 1);
    }

    static void promise27_24Frames() {
        FrameRound x = Check.planned(Check.mode(4, 0) + Check.task(44, 48, 4, 4) + Check.task(0, 32, 1, 32));
        CHECK.told("the last", x, x.slack(0, 23), 0);
        CHECK.told("the one ahead of it", x, x.slack(0, 22), 4);
        CHECK.refused("the next", x, x.slack(0, 24), 1);
    }

    // ---- promise 28

    static void promise28_numbers() {
        frames((x, m, k) -> x.openAt(m, k));
    }

    /** Released ahead of it, not at it; with UNITS from there on, not only ahead of it. */
    static void promise28_releasedAndNotDone() {
        FrameRound x = Check.planned(Check.mode(4, 0) + Check.task(4, 16, 1, 12) + Check.task(3, 16, 1, 13) + ";"
            + Check.mode(4, 0) + Check.task(0, 16, 4, 16) + ";" + Check.mode(4, 0) + Check.task(0, 16, 5, 16));
        // JOB 0 from 3 on, JOB 1 from 4 on, both in FRAME 1.
        int[] due = {0, 1, 0, 0};
        int[] one = {0, 0, 0, 0};
        int[] two = {0, 1, 0, 0};
        for (int k = 0; k < 4; k++) {
            CHECK.told("FRAME " + k, x, x.openAt(0, k), due[k]);
            CHECK.told("done in FRAME 0, at " + k, x, x.openAt(1, k), one[k]);
            CHECK.told("done in FRAME 1, at " + k, x, x.openAt(2, k), two[k]);
        }
    }

    static void promise28_noneAtTheBeginningOfTheRound() {
        FrameRound x = Check.planned(Check.mode(4, 0) + Check.task(0, 12, 12, 12) + ";" + Check.mode(10, 0));
        CHECK.told("FRAME 0", x, x.openAt(0, 0), 0);
        CHECK.told("FRAME 1", x, x.openAt(0, 1), 1);
        CHECK.told("FRAME 2", x, x.openAt(0, 2), 1);
        CHECK.told("without JOBS", x, x.openAt(1, 0), 0);
    }

    /** JOB 23, from 43 on, in FRAME 11 of 4. */
    static void promise28_24Jobs() {
        FrameRound x = Check.planned(Check.mode(4, 0) + Check.task(0, 8, 1, 8) + Check.task(0, 8, 1, 8)
            + Check.task(3, 8, 1, 5) + Check.task(0, 16, 1, 16) + Check.task(0, 24, 1, 24) + Check.task(0, 48, 1, 48));
        CHECK.told("24", x, x.mode(0, 4), 24);
        CHECK.told("JOB 23", x, x.job(0, 23, 1), 43);
        CHECK.told("the last FRAME", x, x.openAt(0, 11), 1 << 23);
        CHECK.told("the one ahead of it", x, x.openAt(0, 10), 0);
    }
}
