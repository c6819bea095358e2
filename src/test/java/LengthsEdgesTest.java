/** Boundary cases of promises 10 to 20 and of Terms II: FLOW, MOST, OVER, the CUT, lengths JUDGED. */
public final class LengthsEdgesTest {
    private static final Check CHECK = new Check("LengthsEdgesTest");
    private static final int[] FAR = {-1, Integer.MIN_VALUE, Integer.MAX_VALUE};
    private static final int ALL_24 = (1 << 24) - 1;
    /** One JOB of 1 UNIT in a ROUND of 60. */
    private static final String SIXTY = Check.task(0, 60, 1, 60);
    /** 24 JOBS: the 23 of PERIOD 2 have empty WINDOWS by any length, the one of PERIOD 46 is JOB 0. */
    private static final String CROWD = Check.mode(4, 0) + Check.task(0, 46, 60, 46) + Check.task(0, 2, 1, 2);

    public static void main(String[] args) {
        CHECK.runAll(LengthsEdgesTest.class);
        CHECK.end();
    }

    private interface ByLength {
        int of(FrameRound x, int m, int g);
    }

    private interface ByMode {
        int of(FrameRound x, int m);
    }

    /** 1 (m); then 2 (g: 4 .. 96). */
    private static void numbers(ByLength call, int by4, int by96) {
        FrameRound none = new FrameRound();
        CHECK.refused("without a PLAN", none, call.of(none, 0, 10), 1);
        CHECK.refused("without a PLAN, 1 ahead of 2", none, call.of(none, 0, 3), 1);
        FrameRound x = Check.planned(Check.mode(60, 0) + SIXTY + ";" + Check.mode(5, 0));
        CHECK.told("by 4", x, call.of(x, 0, 4), by4);
        if (by96 == -1) {
            CHECK.refused("by 96", x, call.of(x, 0, 96), 5);
        } else {
            CHECK.told("by 96", x, call.of(x, 0, 96), by96);
        }
        CHECK.refused("by 3", x, call.of(x, 0, 3), 2);
        CHECK.refused("by 97", x, call.of(x, 0, 97), 2);
        CHECK.refused("by 0", x, call.of(x, 0, 0), 2);
        CHECK.refused("by 3 in the last mode", x, call.of(x, 1, 3), 2);
        CHECK.refused("the next mode", x, call.of(x, 2, 4), 1);
        CHECK.refused("the next mode, 1 ahead of 2", x, call.of(x, 2, 97), 1);
        for (int far : FAR) {
            CHECK.refused("mode " + far, x, call.of(x, far, 4), 1);
            CHECK.refused("mode and length " + far, x, call.of(x, far, far), 1);
            CHECK.refused("length " + far, x, call.of(x, 0, far), 2);
        }
    }

    /** 1 (m), and nothing else. */
    private static void modes(ByMode call, int first, int second) {
        FrameRound none = new FrameRound();
        CHECK.refused("without a PLAN", none, call.of(none, 0), 1);
        FrameRound x = Check.planned(Check.mode(60, 0) + SIXTY + ";" + Check.mode(5, 0));
        CHECK.told("the first", x, call.of(x, 0), first);
        CHECK.told("the last", x, call.of(x, 1), second);
        CHECK.refused("the next", x, call.of(x, 2), 1);
        for (int m : FAR) {
            CHECK.refused("mode " + m, x, call.of(x, m), 1);
        }
    }

    private static void judge(String text, int g, int due) {
        FrameRound x = Check.planned(text);
        CHECK.told(text + " by " + g, x, x.judge(0, g), due);
    }

    // ---- promise 10

    static void promise10_numbers() {
        numbers((x, m, g) -> x.judge(m, g), 0, 1 + 4 + 8 + 16);
    }

    /** 1: the ROUND isn't a multiple of g. */
    static void promise10_multiples() {
        String text = Check.mode(6, 0) + Check.task(0, 12, 2, 12);
        judge(text, 4, 0);
        judge(text, 5, 1);
        judge(text, 6, 0);
        judge(text, 12, 0);
        judge(text, 11, 1 + 4);
        judge(text, 13, 1 + 4 + 8 + 16);
        judge(text, 24, 1 + 4 + 8 + 16);
        judge(Check.mode(10, 0), 10, 0);
        judge(Check.mode(10, 0), 5, 0);
        judge(Check.mode(10, 0), 4, 1);
        judge(Check.mode(10, 0), 20, 1);
        // 96 is in a ROUND of 96, but no SPAN is as long.
        judge(Check.mode(10, 0) + Check.task(0, 32, 1, 32) + Check.task(0, 48, 1, 48), 96, 4 + 8 + 16);
    }

    /** 2: some COST is more than the ROOM; just as much isn't. */
    static void promise10_costs() {
        judge(Check.mode(6, 0) + Check.task(0, 12, 6, 12), 6, 0);
        judge(Check.mode(6, 0) + Check.task(0, 12, 7, 12), 6, 2);
        judge(Check.mode(6, 2) + Check.task(0, 12, 4, 12), 6, 0);
        judge(Check.mode(6, 2) + Check.task(0, 12, 5, 12), 6, 2);
        judge(Check.mode(6, 2) + Check.task(0, 12, 1, 12) + Check.task(0, 12, 5, 12), 6, 2);
        judge(Check.mode(6, 2) + Check.task(0, 12, 5, 12) + Check.task(0, 12, 1, 12), 6, 2);
    }

    /** 4: REACH is more than the SPAN; just as much isn't. */
    static void promise10_reach() {
        // By 6 in 12 REACH is 9 with a PHASE of 3, 6 with 0 or 6.
        judge(Check.mode(6, 0) + Check.task(3, 12, 1, 9), 6, 0);
        judge(Check.mode(6, 0) + Check.task(3, 12, 1, 8), 6, 4 + 8 + 16);
        judge(Check.mode(6, 0) + Check.task(0, 12, 1, 6), 6, 0);
        judge(Check.mode(6, 0) + Check.task(0, 12, 1, 5), 6, 4 + 8 + 16);
        judge(Check.mode(6, 0) + Check.task(6, 12, 1, 6), 6, 0);
        // By 9 in 20 it is 17, though 9 would do.
        judge(Check.mode(6, 0) + Check.task(0, 20, 1, 17), 9, 1);
        judge(Check.mode(6, 0) + Check.task(0, 20, 1, 16), 9, 1 + 4);
        judge(Check.mode(6, 0) + Check.task(0, 20, 1, 9), 9, 1 + 4);
        judge(Check.mode(6, 0) + Check.task(0, 20, 1, 8), 9, 1 + 4 + 8 + 16);
        judge(Check.mode(6, 0) + Check.task(0, 20, 1, 20) + Check.task(0, 20, 1, 9), 9, 1 + 4);
    }

    /** 8: some WINDOW is empty, be it of one JOB alone. */
    static void promise10_windows() {
        // By 4 JOBS at 0 and 6: the second has FRAME 2 (8 to 12) within 6, none within 5.
        judge(Check.mode(4, 0) + Check.task(0, 6, 1, 6) + Check.task(0, 12, 1, 12), 4, 0);
        judge(Check.mode(4, 0) + Check.task(0, 6, 1, 5) + Check.task(0, 12, 1, 12), 4, 4 + 8 + 16);
    }

    /** 16: it doesn't FIT; if it just does, it does. */
    static void promise10_fits() {
        judge(Check.mode(4, 0) + Check.task(0, 8, 2, 4) + Check.task(0, 8, 2, 4), 4, 0);
        judge(Check.mode(4, 0) + Check.task(0, 8, 2, 4) + Check.task(0, 8, 3, 4), 4, 16);
        judge(Check.mode(4, 0) + Check.task(0, 8, 8, 8), 4, 2);
        judge(Check.mode(4, 0) + Check.task(0, 8, 9, 8), 4, 2 + 16);
    }

    /** ROOM is 0 at least. */
    static void promise10_noRoom() {
        judge(Check.mode(10, 4) + Check.task(0, 20, 1, 20), 4, 2 + 16);
        judge(Check.mode(10, 5) + Check.task(0, 20, 1, 20), 4, 2 + 16);
        judge(Check.mode(10, 4) + Check.task(0, 20, 1, 20), 5, 0);
        judge(Check.mode(60, 59), 4, 0);
    }

    static void promise10_allAtOnce() {
        judge(Check.mode(6, 0) + Check.task(0, 20, 60, 20), 59, 31);
        judge(Check.mode(6, 0) + Check.task(0, 20, 59, 20), 59, 29);
    }

    static void promise10_theFrameIsNotAsked() {
        FrameRound x = Check.planned(Check.mode(60, 0) + Check.task(0, 12, 2, 12));
        CHECK.told("by 6", x, x.judge(0, 6), 0);
        CHECK.told("the FRAME stays", x, x.mode(0, 0), 60);
        CHECK.told("its FRAMES stay", x, x.mode(0, 5), 0);
    }

    // ---- promise 11

    static void promise11_numbers() {
        numbers((x, m, g) -> x.most(m, g), 1, 0);
    }

    static void promise11_none() {
        FrameRound x = Check.planned(Check.mode(10, 4) + Check.task(0, 20, 9, 20) + ";" + Check.mode(10, 0));
        CHECK.told("no ROOM", x, x.most(0, 4), 0);
        CHECK.told("ROOM of 1", x, x.most(0, 5), 4);
        CHECK.told("no FRAMES", x, x.most(0, 21), 0);
        CHECK.told("no JOBS", x, x.most(1, 10), 0);
    }

    static void promise11_full() {
        FrameRound x = Check.planned(Check.mode(4, 0) + Check.task(0, 8, 8, 8) + ";"
            + Check.mode(4, 0) + Check.task(0, 8, 9, 8) + ";"
            + Check.mode(4, 0) + Check.task(0, 32, 33, 32) + Check.task(0, 48, 1, 48));
        CHECK.told("all COSTS, all ROOMS", x, x.most(0, 4), 8);
        CHECK.told("all ROOMS", x, x.most(1, 4), 8);
        CHECK.told("24 FRAMES", x, x.most(2, 4), 96);
    }

    /** JOB 0 has FRAMES 0 and 1, JOB 1 has FRAME 0 alone: who is first must make way. */
    static void promise11_oneMakesWay() {
        FrameRound x = Check.planned(Check.mode(4, 0) + Check.task(0, 8, 4, 8) + Check.task(0, 8, 4, 4) + ";"
            + Check.mode(4, 0) + Check.task(0, 8, 5, 8) + Check.task(0, 8, 4, 4));
        CHECK.told("just", x, x.most(0, 4), 8);
        CHECK.told("one too much", x, x.most(1, 4), 8);
    }

    // ---- promises 12 to 14

    static void promise12_numbers() {
        numbers((x, m, g) -> x.over(m, g), 0, 1);
    }

    static void promise13_numbers() {
        numbers((x, m, g) -> x.cutFrames(m, g), 0, 0);
    }

    static void promise14_numbers() {
        numbers((x, m, g) -> x.cutJobs(m, g), 0, 1);
    }

    /** Each asked on its own, with another length asked ahead of it: none rests on what was asked. */
    private static void cut(String text, int g, int over, int frames, int jobs) {
        FrameRound x = Check.planned(text);
        CHECK.told("11 and 12 " + text, x, x.most(0, g) + over, x.mode(0, 6));
        x.most(0, 95);
        CHECK.told("12 " + text, x, x.over(0, g), over);
        x.most(0, 95);
        CHECK.told("13 " + text, x, x.cutFrames(0, g), frames);
        x.most(0, 95);
        CHECK.told("14 " + text, x, x.cutJobs(0, g), jobs);
    }

    private static void over(String text, int g, int due) {
        FrameRound x = Check.planned(text);
        CHECK.told(text + " by " + g, x, x.over(0, g), due);
    }

    /** 0 at least, as the empty set has that; all COSTS at most, without ROOM or FRAMES. */
    static void promise12_noneAndAll() {
        over(Check.mode(4, 0), 4, 0);
        over(Check.mode(4, 0) + Check.task(0, 8, 1, 8), 4, 0);
        over(Check.mode(4, 0) + Check.task(0, 8, 8, 8), 4, 0);
        over(Check.mode(4, 0) + Check.task(0, 8, 9, 8), 4, 1);
        over(Check.mode(9, 4) + Check.task(0, 8, 9, 8), 4, 9);
        over(Check.mode(9, 5) + Check.task(0, 8, 9, 8), 4, 9);
        over(Check.mode(9, 3) + Check.task(0, 8, 9, 8), 4, 7);
        over(Check.mode(4, 0) + Check.task(0, 8, 9, 8), 9, 9);
        over(Check.mode(4, 0) + Check.task(0, 46, 60, 46) + Check.task(0, 2, 60, 2), 96, 24 * 60);
    }

    /** COSTS of empty WINDOWS count, whatever else FITS. */
    static void promise12_emptyWindows() {
        over(Check.mode(5, 0) + Check.task(1, 20, 3, 8), 5, 3);
        over(Check.mode(5, 0) + Check.task(1, 20, 3, 9), 5, 0);
        over(Check.mode(5, 0) + Check.task(1, 20, 3, 8) + Check.task(0, 20, 20, 20), 5, 3);
        over(Check.mode(5, 0) + Check.task(1, 20, 3, 8) + Check.task(0, 20, 21, 20), 5, 4);
    }

    /** If it just FITS, all FRAMES and none have the same OVER of 0: none are the fewest. */
    static void promise13_none() {
        cut(Check.mode(4, 0) + Check.task(0, 8, 8, 8), 4, 0, 0, 0);
        cut(Check.mode(4, 0) + Check.task(0, 8, 1, 8), 4, 0, 0, 0);
        cut(Check.mode(4, 0), 4, 0, 0, 0);
        cut(Check.mode(4, 0) + Check.task(0, 8, 9, 8), 4, 1, 3, 1);
    }

    /** FRAME 0 has 1 too many; FRAME 1 is just full: with it OVER is the same. */
    static void promise13_theFewest() {
        cut(Check.mode(4, 0) + Check.task(0, 8, 5, 4) + Check.task(4, 8, 4, 4), 4, 1, 1, 1);
        cut(Check.mode(4, 0) + Check.task(0, 8, 5, 4) + Check.task(4, 8, 5, 4), 4, 2, 3, 3);
        cut(Check.mode(4, 0) + Check.task(0, 8, 4, 4) + Check.task(4, 8, 5, 4), 4, 1, 2, 2);
        cut(Check.mode(4, 0) + Check.task(0, 8, 5, 4) + Check.task(0, 8, 4, 8), 4, 1, 1, 1);
        cut(Check.mode(4, 0) + Check.task(0, 8, 5, 4) + Check.task(0, 8, 5, 8), 4, 2, 3, 3);
    }

    /** JOB 0 has a UNIT in the FRAME in which JOB 1 is too much, and no room to make way: its FRAMES count. */
    static void promise13_whoCanNotMakeWay() {
        cut(Check.mode(4, 0) + Check.task(0, 12, 9, 12) + Check.task(8, 12, 4, 4), 4, 1, 7, 3);
        cut(Check.mode(4, 0) + Check.task(0, 12, 8, 12) + Check.task(8, 12, 4, 4), 4, 0, 0, 0);
        cut(Check.mode(4, 0) + Check.task(0, 12, 8, 12) + Check.task(8, 12, 5, 4), 4, 1, 4, 2);
        cut(Check.mode(4, 0) + Check.task(0, 12, 9, 12) + Check.task(8, 12, 5, 4), 4, 2, 7, 3);
        // One pushes the next: JOB 2 is too much in FRAME 2, JOB 1 (FRAMES 1, 2) and JOB 0 (FRAMES 0, 1) are full.
        cut(Check.mode(4, 0) + Check.task(0, 12, 5, 8) + Check.task(4, 12, 5, 8) + Check.task(8, 12, 3, 4), 4, 1, 7, 7);
        cut(Check.mode(4, 0) + Check.task(0, 12, 4, 8) + Check.task(4, 12, 5, 8) + Check.task(8, 12, 3, 4), 4, 0, 0, 0);
        // FRAME 3 and its JOB are beside it.
        cut(Check.mode(4, 0) + Check.task(0, 16, 5, 8) + Check.task(4, 16, 5, 8) + Check.task(8, 16, 3, 4)
            + Check.task(12, 16, 4, 4), 4, 1, 7, 7);
    }

    static void promise13_theLastFrameOf24() {
        String text = Check.mode(4, 0) + Check.task(44, 48, 5, 4) + Check.task(0, 32, 1, 32);
        cut(text, 4, 2, (1 << 11) + (1 << 23), 4 + 16);
    }

    static void promise13_allOf24Frames() {
        String text = Check.mode(4, 0) + Check.task(0, 32, 33, 32) + Check.task(0, 48, 1, 48);
        cut(text, 4, 5, ALL_24, 31);
    }

    /** FRAMES without ROOM: as many as the JOBS' WINDOWS have, and no others. */
    static void promise13_noRoom() {
        cut(Check.mode(10, 4) + Check.task(4, 20, 1, 8), 4, 1, 2 + 4, 1);
        cut(Check.mode(10, 9) + Check.task(4, 20, 1, 8), 4, 1, 2 + 4, 1);
        cut(Check.mode(10, 9) + Check.task(4, 20, 1, 8) + Check.task(0, 20, 2, 4), 4, 3, 1 + 2 + 4, 3);
    }

    /** Empty WINDOWS lie in each set, the empty one too. */
    static void promise14_emptyWindows() {
        cut(Check.mode(5, 0) + Check.task(1, 20, 3, 8) + Check.task(0, 20, 5, 20), 5, 3, 0, 2);
        cut(Check.mode(60, 0) + Check.task(1, 20, 3, 8) + Check.task(0, 20, 5, 20), 60, 8, 0, 3);
        // FRAME 0 has 1 too many beside it.
        cut(Check.mode(5, 0) + Check.task(1, 20, 3, 8) + Check.task(0, 20, 6, 5), 5, 4, 1, 3);
    }

    static void promise14_all24Jobs() {
        cut(CROWD, 4, 23 + 16, (1 << 11) - 1, ALL_24);
        cut(CROWD, 96, 23 + 60, 0, ALL_24);
    }

    /** Those, too, that are not too much themselves; not those whose WINDOWS have a FRAME more. */
    static void promise14_whoseWindowsLieInIt() {
        cut(Check.mode(4, 0) + Check.task(0, 12, 9, 8) + Check.task(4, 12, 1, 4), 4, 2, 3, 3);
        cut(Check.mode(4, 0) + Check.task(0, 12, 9, 8) + Check.task(4, 12, 1, 8), 4, 1, 3, 1);
    }

    // ---- promises 15, 16

    static void promise15_numbers() {
        modes((x, m) -> x.goods(m), 9, 1);
    }

    static void promise15_noneAndMany() {
        FrameRound x = Check.planned(Check.mode(10, 0) + Check.task(0, 3, 1, 3) + ";" + Check.mode(11, 10) + SIXTY);
        CHECK.told("none", x, x.goods(0), 0);
        CHECK.told("those with ROOM", x, x.goods(1), 5);
        CHECK.told("the least of them", x, x.good(1, 0), 12);
        x.reserve(1, 9);
        CHECK.told("by one less of RESERVE", x, x.good(1, 0), 10);
    }

    /** None of 1, 8, 16: a COST of more than the ROOM is no matter. */
    static void promise15_good() {
        FrameRound x = Check.planned(Check.mode(6, 0) + Check.task(0, 12, 12, 12) + ";"
            + Check.mode(6, 0) + Check.task(0, 12, 12, 12) + Check.task(0, 12, 1, 12) + ";"
            + Check.mode(6, 0) + Check.task(1, 12, 1, 11));
        CHECK.told("4, 6, 12", x, x.goods(0), 3);
        CHECK.told("it doesn't FIT", x, x.goods(1), 0);
        CHECK.told("an empty WINDOW by 12", x, x.goods(2), 2);
    }

    static void promise16_numbers() {
        FrameRound none = new FrameRound();
        CHECK.refused("without a PLAN", none, none.good(0, 0), 1);
        FrameRound x = Check.planned(Check.mode(60, 0) + SIXTY + ";" + Check.mode(10, 0) + Check.task(0, 3, 1, 3));
        int[] due = {4, 5, 6, 10, 12, 15, 20, 30, 60};
        for (int i = 0; i < due.length; i++) {
            CHECK.told("good " + i, x, x.good(0, i), due[i]);
        }
        CHECK.refused("the next", x, x.good(0, 9), 1);
        CHECK.refused("of none", x, x.good(1, 0), 1);
        CHECK.refused("the next mode", x, x.good(2, 0), 1);
        for (int far : FAR) {
            CHECK.refused("i " + far, x, x.good(0, far), 1);
            CHECK.refused("mode " + far, x, x.good(far, 0), 1);
        }
    }

    // ---- promises 17, 18

    static void promise17_numbers() {
        numbers((x, m, g) -> x.piecesBy(m, g), 1, -1);
    }

    static void promise17_notGood() {
        FrameRound x = Check.planned(Check.mode(6, 0) + Check.task(0, 12, 7, 12) + ";"
            + Check.mode(6, 0) + Check.task(3, 12, 1, 9) + ";"
            + Check.mode(6, 0) + Check.task(0, 12, 4, 6) + Check.task(0, 12, 4, 6));
        CHECK.refused("no multiple", x, x.piecesBy(0, 5), 5);
        CHECK.told("a COST of more than the ROOM", x, x.piecesBy(0, 6), 2);
        CHECK.refused("an empty WINDOW", x, x.piecesBy(1, 12), 5);
        CHECK.told("none by 6", x, x.piecesBy(1, 6), 1);
        CHECK.refused("it doesn't FIT", x, x.piecesBy(2, 6), 5);
        CHECK.refused("2 ahead of 5", x, x.piecesBy(2, 3), 2);
        CHECK.refused("2 ahead of 5", x, x.piecesBy(2, 97), 2);
        CHECK.refused("1 ahead of 5", x, x.piecesBy(3, 6), 1);
    }

    static void promise17_noTasks() {
        FrameRound x = Check.planned(Check.mode(10, 9));
        CHECK.told("by 10", x, x.piecesBy(0, 10), 0);
        CHECK.told("by 5, without ROOM", x, x.piecesBy(0, 5), 0);
        CHECK.refused("by 4", x, x.piecesBy(0, 4), 5);
        CHECK.refused("by 20", x, x.piecesBy(0, 20), 5);
    }

    static void promise17_theTableStays() {
        FrameRound x = Check.planned(Check.mode(4, 0) + Check.task(0, 12, 7, 12));
        CHECK.told("by 12", x, x.piecesBy(0, 12), 1);
        CHECK.told("by 4", x, x.pieces(0), 2);
        CHECK.told("SLACK", x, x.slack(0, 1), 1);
    }

    static void promise18_numbers() {
        modes((x, m) -> x.fewestBy(m), 60, 5);
    }

    static void promise18_none() {
        FrameRound x = Check.planned(Check.mode(10, 0) + Check.task(0, 3, 1, 3) + ";"
            + Check.mode(10, 0) + Check.task(0, 20, 21, 20));
        CHECK.told("none in the ROUND", x, x.fewestBy(0), -2);
        CHECK.told("none FITS", x, x.fewestBy(1), -2);
    }

    /** Of several the greatest: by 4 there are 2 PIECES, by 6 and 12 one. */
    static void promise18_theGreatestOfSeveral() {
        FrameRound x = Check.planned(Check.mode(4, 0) + Check.task(0, 12, 5, 12) + ";"
            + Check.mode(4, 0) + Check.task(0, 24, 5, 8) + Check.task(0, 24, 5, 23));
        CHECK.told("by 4", x, x.piecesBy(0, 4), 2);
        CHECK.told("by 6", x, x.piecesBy(0, 6), 1);
        CHECK.told("by 12", x, x.piecesBy(0, 12), 1);
        CHECK.told("12", x, x.fewestBy(0), 12);
        CHECK.told("not by 12", x, x.judge(1, 12) & 8, 8);
        CHECK.told("8", x, x.fewestBy(1), 8);
    }

    /** By 4 each JOB is in one FRAME; by 6 one of 4 UNITS is in two; by 12 there are empty WINDOWS. */
    static void promise18_notTheGreatestGood() {
        FrameRound x = Check.planned(Check.mode(6, 0) + Check.task(0, 12, 4, 12) + Check.task(6, 12, 3, 6)
            + Check.task(0, 12, 3, 6));
        CHECK.told("by 4", x, x.piecesBy(0, 4), 3);
        CHECK.told("by 6", x, x.piecesBy(0, 6), 4);
        CHECK.refused("by 12", x, x.piecesBy(0, 12), 5);
        CHECK.told("4", x, x.fewestBy(0), 4);
    }

    // ---- promise 19

    static void promise19_numbers() {
        FrameRound none = new FrameRound();
        CHECK.refused("without a PLAN", none, none.headroom(0, 0), 1);
        FrameRound x = Check.planned(Check.mode(60, 0) + SIXTY + SIXTY + ";" + Check.mode(5, 0));
        CHECK.told("the last TASK", x, x.headroom(0, 1), 59);
        CHECK.refused("the next", x, x.headroom(0, 2), 1);
        CHECK.refused("of none", x, x.headroom(1, 0), 1);
        CHECK.refused("the next mode", x, x.headroom(2, 0), 1);
        for (int far : FAR) {
            CHECK.refused("TASK " + far, x, x.headroom(0, far), 1);
            CHECK.refused("mode " + far, x, x.headroom(far, 0), 1);
        }
    }

    private static void headroom(String text, int due) {
        FrameRound x = Check.planned(text);
        CHECK.told(text, x, x.headroom(0, 0), due);
    }

    /** 0 .. 60, each of them by a RESERVE. */
    static void promise19_upTo60() {
        for (int reserve = 0; reserve <= 59; reserve++) {
            headroom(Check.mode(60, reserve) + SIXTY, 60 - reserve);
        }
        // Over several FRAMES too.
        headroom(Check.mode(30, 0) + SIXTY, 60);
        headroom(Check.mode(4, 0) + SIXTY, 60);
        headroom(Check.mode(20, 1) + SIXTY, 57);
    }

    static void promise19_0() {
        headroom(Check.mode(5, 0) + Check.task(1, 20, 9, 8), 0);
        headroom(Check.mode(21, 0) + Check.task(0, 20, 9, 20), 0);
        headroom(Check.mode(5, 0) + Check.task(0, 20, 9, 20) + Check.task(0, 20, 20, 20), 0);
        headroom(Check.mode(5, 0) + Check.task(0, 20, 9, 20) + Check.task(0, 20, 19, 20), 1);
    }

    /** Not even by 0. */
    static void promise19_none() {
        headroom(Check.mode(5, 0) + Check.task(0, 20, 9, 20) + Check.task(0, 20, 21, 20), -2);
        headroom(Check.mode(5, 0) + Check.task(0, 20, 9, 20) + Check.task(1, 20, 1, 8), -2);
    }

    /** 24 JOBS; the other TASK's have empty WINDOWS, or none have. */
    static void promise19_24Jobs() {
        headroom(CROWD, -2);
        FrameRound x = Check.planned(CROWD);
        CHECK.told("not even by 0", x, x.headroom(0, 1), -2);
        FrameRound y = Check.planned(Check.mode(4, 0) + Check.task(0, 8, 1, 8) + Check.task(0, 8, 1, 8)
            + Check.task(3, 8, 1, 5) + Check.task(0, 16, 1, 16) + Check.task(0, 24, 1, 24) + Check.task(0, 48, 1, 48));
        // 48 UNITS, 24 are had; each more of the last costs one, of the first six.
        CHECK.told("the last TASK", y, y.headroom(0, 5), 25);
        CHECK.told("the first", y, y.headroom(0, 0), 5);
    }

    /** Of all its JOBS alike, and whether or not the ROUND is a multiple of the FRAME. */
    static void promise19_itFits() {
        headroom(Check.mode(4, 0) + Check.task(0, 8, 1, 8) + Check.task(0, 16, 3, 4), 5);
        headroom(Check.mode(9, 0) + Check.task(0, 20, 1, 20), 18);
        headroom(Check.mode(9, 3) + Check.task(0, 20, 1, 20), 12);
    }

    static void promise19_allStays() {
        FrameRound x = Check.planned(Check.mode(5, 0) + Check.task(0, 20, 9, 20));
        x.run(1);
        CHECK.told("headroom", x, x.headroom(0, 0), 20);
        CHECK.told("COST", x, x.task(0, 0, 2), 9);
        CHECK.told("COST of the JOB", x, x.job(0, 0, 3), 9);
        CHECK.told("SLACK", x, x.slack(0, 1), 1);
        CHECK.told("NOW", x, x.clock(0), 5);
    }

    // ---- promise 20

    static void promise20_numbers() {
        modes((x, m) -> x.reserveUpTo(m), 59, 4);
    }

    private static void upTo(String text, int due) {
        FrameRound x = Check.planned(text);
        CHECK.told(text, x, x.reserveUpTo(0), due);
    }

    /** 0 .. FRAME less 1, whatever it is now. */
    static void promise20_edges() {
        upTo(Check.mode(4, 0), 3);
        upTo(Check.mode(4, 3), 3);
        upTo(Check.mode(60, 0), 59);
        upTo(Check.mode(60, 59), 59);
        for (int cost = 1; cost <= 60; cost++) {
            upTo(Check.mode(60, 30) + Check.task(0, 60, cost, 60), 60 - cost);
        }
        upTo(Check.mode(5, 4) + Check.task(0, 20, 20, 20), 0);
        upTo(Check.mode(5, 0) + Check.task(0, 20, 21, 20), -2);
        upTo(Check.mode(5, 0) + Check.task(1, 20, 1, 8), -2);
        upTo(Check.mode(21, 0) + Check.task(0, 20, 1, 20), -2);
        upTo(Check.mode(5, 0) + Check.task(0, 20, 4, 20), 4);
        upTo(Check.mode(5, 0) + Check.task(0, 20, 5, 20), 3);
        upTo(Check.mode(9, 0) + Check.task(0, 20, 2, 20), 8);
    }

    static void promise20_allStays() {
        FrameRound x = Check.planned(Check.mode(5, 1) + Check.task(0, 20, 9, 20));
        x.run(1);
        CHECK.told("reserveUpTo", x, x.reserveUpTo(0), 2);
        CHECK.told("RESERVE", x, x.mode(0, 1), 1);
        CHECK.told("SLACK", x, x.slack(0, 2), 3);
        CHECK.told("NOW", x, x.clock(0), 5);
    }
}
