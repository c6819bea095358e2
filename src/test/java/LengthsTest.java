/** Promises 10 to 20: judge, most, over, cutFrames, cutJobs, goods, good, piecesBy, fewestBy, headroom, reserveUpTo. */
public final class LengthsTest {
    private static final Check CHECK = new Check("LengthsTest");
    private static final String A =
        Check.mode(10, 2) + Check.task(0, 20, 4, 20) + Check.task(0, 40, 12, 30) + Check.task(5, 20, 3, 15);
    private static final String EMPTY = Check.mode(12, 5);
    /** JOBS of 20 and 8 UNITS with WINDOWS of 2 and 3 FRAMES of 5; none with FRAMES of 60. */
    private static final String B = Check.mode(5, 1) + Check.task(0, 30, 20, 10) + Check.task(10, 30, 8, 15);

    public static void main(String[] args) {
        judge();
        cuts();
        cutOfRuns();
        goods();
        pieces();
        headroom();
        reserveUpTo();
        wrong();
        CHECK.end();
    }

    private static void judge() {
        FrameRound x = Check.planned(A + ";" + EMPTY + ";" + B);
        // By 4: ROOM is 2: COSTS 4, 12 and 3 are more; 10 FRAMES have 20 UNITS, COSTS are 26.
        CHECK.told("10 judge 4", x, x.judge(0, 4), 2 + 16);
        CHECK.told("10 judge 5", x, x.judge(0, 5), 2 + 16);
        // ROOM 6, 3 FRAMES up to 30: 18 UNITS, all but one JOB of 4 + 12 + 3 and 4.
        CHECK.told("10 judge 8", x, x.judge(0, 8), 2 + 16);
        // REACH is 18 less 1: more than the 15 of TASK 2; each WINDOW has a FRAME, and all fit.
        CHECK.told("10 judge 9", x, x.judge(0, 9), 1 + 2 + 4);
        CHECK.told("10 judge 10", x, x.judge(0, 10), 2);
        CHECK.told("10 judge 20", x, x.judge(0, 20), 4 + 8 + 16);
        CHECK.told("10 judge 40", x, x.judge(0, 40), 4 + 8 + 16);
        CHECK.told("10 judge 96", x, x.judge(0, 96), 1 + 4 + 8 + 16);
        for (int g = 4; g <= 96; g++) {
            CHECK.told("10 judge without TASKS " + g, x, x.judge(1, g), 12 % g == 0 ? 0 : 1);
        }
        FrameRound y = Check.planned(Check.mode(6, 0) + Check.task(0, 12, 2, 12) + ";"
            + Check.mode(6, 0) + Check.task(3, 12, 2, 8) + ";" + Check.mode(6, 0) + Check.task(3, 12, 7, 9));
        CHECK.told("10 nothing against it", y, y.judge(0, 6), 0);
        // REACH is 12 less 3: more than 8; the one FRAME from 6 to 12 ends behind DUE 11.
        CHECK.told("10 REACH and WINDOW", y, y.judge(1, 6), 4 + 8 + 16);
        CHECK.told("10 a COST of more than the ROOM", y, y.judge(2, 6), 2 + 16);
        CHECK.told("10 REACH is just SPAN", y, y.judge(2, 4), 2);
        CHECK.told("10 4 by 3, REACH 5", y, y.judge(1, 4), 0);
        FrameRound z = Check.planned(Check.mode(6, 4) + Check.task(0, 12, 2, 12) + ";"
            + Check.mode(60, 5) + Check.task(0, 12, 2, 12) + Check.task(0, 12, 1, 12));
        CHECK.told("10 a COST that is the ROOM", z, z.judge(0, 6), 0);
        CHECK.told("10 a RESERVE of more than g", z, z.judge(1, 4), 2 + 16);
        CHECK.told("11 a RESERVE of more than g", z, z.most(1, 4), 0);
        CHECK.told("12 a RESERVE of more than g", z, z.over(1, 4), 3);
        CHECK.told("13 a RESERVE of more than g", z, z.cutFrames(1, 4), 7);
    }

    private static void cuts() {
        FrameRound x = Check.planned(A + ";" + EMPTY + ";" + B);
        CHECK.told("11 most 10", x, x.most(0, 10), 26);
        CHECK.told("11 most 8", x, x.most(0, 8), 25);
        CHECK.told("11 most 20: JOBS 2 and 4 have no FRAME", x, x.most(0, 20), 20);
        CHECK.told("11 most 96: no FRAMES", x, x.most(0, 96), 0);
        CHECK.told("11 most without TASKS", x, x.most(1, 6), 0);
        CHECK.told("12 over 8", x, x.over(0, 8), 1);
        CHECK.told("12 over 10", x, x.over(0, 10), 0);
        CHECK.told("12 over 20", x, x.over(0, 20), 6);
        CHECK.told("12 over 96", x, x.over(0, 96), 26);
        CHECK.told("13 cutFrames 8", x, x.cutFrames(0, 8), 7);
        CHECK.told("13 cutFrames 20", x, x.cutFrames(0, 20), 0);
        CHECK.told("13 cutFrames 10: none are the fewest", x, x.cutFrames(0, 10), 0);
        CHECK.told("13 cutFrames without TASKS", x, x.cutFrames(1, 4), 0);
        CHECK.told("14 cutJobs 8", x, x.cutJobs(0, 8), 7);
        CHECK.told("14 cutJobs 20: empty WINDOWS lie in none", x, x.cutJobs(0, 20), 4 + 16);
        CHECK.told("14 cutJobs 10", x, x.cutJobs(0, 10), 0);
        CHECK.told("14 cutJobs 96", x, x.cutJobs(0, 96), 31);
        // B by 5: ROOM 4; 20 UNITS in FRAMES 0 and 1 (12 over), 8 in 2, 3 and 4 (4 to spare).
        CHECK.told("12 over B", x, x.over(2, 5), 12);
        CHECK.told("13 cutFrames B", x, x.cutFrames(2, 5), 3);
        CHECK.told("14 cutJobs B", x, x.cutJobs(2, 5), 1);
        CHECK.told("11 most B", x, x.most(2, 5), 16);
    }

    /** Two runs of FRAMES, a FRAME that is just full between them, and JOBS that others push. */
    private static void cutOfRuns() {
        FrameRound x = Check.planned(
            Check.mode(4, 0) + Check.task(0, 24, 5, 4) + Check.task(8, 24, 4, 4) + Check.task(16, 24, 6, 8)
            + Check.task(20, 24, 3, 4) + ";"
            + Check.mode(4, 0) + Check.task(0, 24, 9, 8) + Check.task(4, 24, 3, 8));
        CHECK.told("13 runs", x, x.cutFrames(0, 4), 1 + 16 + 32);
        CHECK.told("14 runs", x, x.cutJobs(0, 4), 1 + 4 + 8);
        CHECK.told("12 runs", x, x.over(0, 4), 1 + 1);
        CHECK.told("11 runs", x, x.most(0, 4), 16);
        // 9 UNITS in FRAMES 0, 1: 1 too many, though the other JOB has FRAME 2 alone for it.
        CHECK.told("13 pushed", x, x.cutFrames(1, 4), 3);
        CHECK.told("14 pushed", x, x.cutJobs(1, 4), 1);
        CHECK.told("11 pushed", x, x.most(1, 4), 11);
        x.recost(1, 1, 5);
        CHECK.told("13 pushed farther: FRAME 2 takes 1 from 1", x, x.cutFrames(1, 4), 7);
        CHECK.told("14 pushed farther", x, x.cutJobs(1, 4), 3);
        CHECK.told("12 pushed farther", x, x.over(1, 4), 2);
        // JOB 0 has one UNIT in FRAME 2, where JOB 1 is too much: its FRAMES are of no use to JOB 1 ..
        FrameRound y = Check.planned(Check.mode(4, 0) + Check.task(0, 12, 9, 12) + Check.task(8, 12, 4, 4)
            + ";" + Check.mode(4, 0) + Check.task(0, 24, 9, 12) + Check.task(8, 24, 4, 4)
            + Check.task(12, 24, 5, 4));
        CHECK.told("11 by one UNIT", y, y.most(0, 4), 12);
        CHECK.told("13 by one UNIT", y, y.cutFrames(0, 4), 7);
        CHECK.told("14 by one UNIT", y, y.cutJobs(0, 4), 3);
        CHECK.told("13 and beside it", y, y.cutFrames(1, 4), 15);
        CHECK.told("12 and beside it", y, y.over(1, 4), 2);
        FrameRound z = Check.planned(Check.mode(5, 1) + Check.task(0, 30, 1, 10) + Check.task(10, 30, 20, 10));
        CHECK.told("13 without JOB 0", z, z.cutFrames(0, 5), 4 + 8);
        CHECK.told("14 without JOB 0", z, z.cutJobs(0, 5), 2);
    }

    private static void goods() {
        FrameRound x = Check.planned(A + ";" + EMPTY + ";" + Check.mode(6, 0) + Check.task(0, 24, 4, 24));
        CHECK.told("15 goods A", x, x.goods(0), 1);
        CHECK.told("16 good A", x, x.good(0, 0), 10);
        CHECK.told("15 goods without TASKS", x, x.goods(1), 3);
        int[] twelve = {4, 6, 12};
        int[] more = {4, 6, 8, 12, 24};
        for (int i = 0; i < 3; i++) {
            CHECK.told("16 good without TASKS", x, x.good(1, i), twelve[i]);
        }
        CHECK.told("15 goods", x, x.goods(2), 5);
        for (int i = 0; i < 5; i++) {
            CHECK.told("16 good", x, x.good(2, i), more[i]);
        }
        CHECK.refused("16 no fifth", x, x.good(2, 5), 1);
        CHECK.refused("16 less than 0", x, x.good(2, -1), 1);
        CHECK.refused("16 far", x, x.good(2, Integer.MAX_VALUE), 1);
        FrameRound all = Check.planned(Check.mode(6, 0) + Check.task(0, 48, 4, 48) + ";" + Check.mode(6, 0)
            + Check.task(0, 32, 1, 32) + Check.task(0, 48, 1, 48));
        CHECK.told("15 up to 48", all, all.goods(0), 7);
        CHECK.told("16 48", all, all.good(0, 6), 48);
        CHECK.told("15 96 has empty WINDOWS", all, all.goods(1), 6);
        CHECK.told("18 48", all, all.fewestBy(0), 48);
        FrameRound y = Check.planned(Check.mode(6, 0) + Check.task(0, 3, 1, 3) + ";" + B);
        CHECK.told("15 none", y, y.goods(0), 0);
        CHECK.refused("16 none", y, y.good(0, 0), 1);
        CHECK.told("15 none fits", y, y.goods(1), 0);
        CHECK.told("18 none", y, y.fewestBy(0), -2);
        CHECK.told("18 none fits", y, y.fewestBy(1), -2);
    }

    private static void pieces() {
        FrameRound x = Check.planned(A + ";" + EMPTY + ";"
            + Check.mode(10, 0) + Check.task(0, 40, 6, 40) + Check.task(0, 40, 7, 40));
        CHECK.told("17 piecesBy", x, x.piecesBy(0, 10), 7);
        CHECK.refused("17 not GOOD", x, x.piecesBy(0, 8), 5);
        CHECK.refused("17 not GOOD: no multiple", x, x.piecesBy(2, 7), 5);
        CHECK.told("17 no TASKS", x, x.piecesBy(1, 4), 0);
        // By 10 TIDIED to one FRAME each; by 4: 4, 2 | 2, 4, 1 and 1 goes to 2; by 5: 5, 1 | 4, 3, 3 goes nowhere.
        CHECK.told("17 piecesBy 10", x, x.piecesBy(2, 10), 2);
        CHECK.told("17 piecesBy 4", x, x.piecesBy(2, 4), 4);
        CHECK.told("17 piecesBy 40", x, x.piecesBy(2, 40), 2);
        CHECK.told("18 the greatest of several", x, x.fewestBy(2), 40);
        CHECK.told("18 without TASKS", x, x.fewestBy(1), 12);
        CHECK.told("18 the only one", x, x.fewestBy(0), 10);
        CHECK.told("17 the TABLE stays", x, x.pieces(0), 7);
        // By 12 each JOB is in one FRAME; the greater lengths have empty WINDOWS; by 6 and 4 JOBS are in two.
        FrameRound y = Check.planned(Check.mode(4, 0) + Check.task(0, 24, 7, 12) + Check.task(12, 24, 7, 12));
        CHECK.told("18 fewest", y, y.fewestBy(0), 12);
        CHECK.told("17 more by less", y, y.piecesBy(0, 4), 4);
    }

    private static void headroom() {
        FrameRound x = Check.planned(A + ";" + B + ";"
            + Check.mode(10, 2) + Check.task(0, 40, 4, 9) + Check.task(0, 40, 4, 40));
        CHECK.told("19 headroom", x, x.headroom(0, 0), 7);
        CHECK.told("19 headroom", x, x.headroom(0, 1), 17);
        CHECK.told("19 headroom", x, x.headroom(0, 2), 6);
        CHECK.told("19 with less", x, x.headroom(1, 0), 8);
        CHECK.told("19 not even with 0", x, x.headroom(1, 1), -2);
        CHECK.told("19 an empty WINDOW: 0", x, x.headroom(2, 0), 0);
        CHECK.told("19 another's empty WINDOW", x, x.headroom(2, 1), -2);
        CHECK.told("19 COSTS stay", x, x.task(0, 0, 2), 4);
        CHECK.told("19 COSTS of JOBS stay", x, x.mode(0, 6), 26);
        FrameRound y = Check.planned(Check.mode(60, 0) + Check.task(0, 60, 1, 60) + ";"
            + Check.mode(60, 1) + Check.task(0, 60, 1, 60) + ";"
            + Check.mode(20, 0) + Check.task(0, 60, 1, 60) + Check.task(0, 60, 1, 60));
        CHECK.told("19 60 at most", y, y.headroom(0, 0), 60);
        CHECK.told("19 59", y, y.headroom(1, 0), 59);
        CHECK.told("19 one less by the other", y, y.headroom(2, 1), 59);
        FrameRound z = Check.planned(Check.mode(9, 0) + Check.task(0, 20, 1, 20));
        CHECK.told("19 FITS though the ROUND is no multiple", z, z.headroom(0, 0), 18);
    }

    private static void reserveUpTo() {
        FrameRound x = Check.planned(A + ";" + B + ";" + EMPTY);
        CHECK.told("20 reserveUpTo", x, x.reserveUpTo(0), 3);
        CHECK.told("20 none", x, x.reserveUpTo(1), -2);
        CHECK.told("20 without TASKS", x, x.reserveUpTo(2), 11);
        CHECK.told("20 RESERVES stay", x, x.mode(0, 1), 2);
        FrameRound y = Check.planned(Check.mode(60, 0) + Check.task(0, 60, 1, 60) + ";"
            + Check.mode(60, 30) + Check.task(0, 60, 60, 60) + ";" + Check.mode(5, 0) + Check.task(0, 20, 1, 20));
        CHECK.told("20 all but 1", y, y.reserveUpTo(0), 59);
        CHECK.told("20 just 0", y, y.reserveUpTo(1), 0);
        CHECK.told("20 four", y, y.reserveUpTo(2), 4);
    }

    private static void wrong() {
        FrameRound none = new FrameRound();
        all(none, 0, 10, 1);
        FrameRound x = Check.planned(A);
        all(x, -1, 10, 1);
        all(x, 1, 3, 1);
        byLength(x, 0, 3, 2);
        byLength(x, 0, 97, 2);
        byLength(x, 0, 0, 2);
        byLength(x, 0, Integer.MIN_VALUE, 2);
        byLength(x, 0, Integer.MAX_VALUE, 2);
        CHECK.refused("19 no TASK", x, x.headroom(0, 3), 1);
        CHECK.refused("19 no TASK", x, x.headroom(0, -1), 1);
        CHECK.told("10 the least", x, x.judge(0, 4), 18);
        CHECK.told("10 the greatest", x, x.judge(0, 96), 29);
    }

    private static void all(FrameRound x, int m, int g, int number) {
        byLength(x, m, g, number);
        CHECK.refused("15", x, x.goods(m), number);
        CHECK.refused("16", x, x.good(m, 0), number);
        CHECK.refused("18", x, x.fewestBy(m), number);
        CHECK.refused("19", x, x.headroom(m, 0), number);
        CHECK.refused("20", x, x.reserveUpTo(m), number);
    }

    private static void byLength(FrameRound x, int m, int g, int number) {
        CHECK.refused("10", x, x.judge(m, g), number);
        CHECK.refused("11", x, x.most(m, g), number);
        CHECK.refused("12", x, x.over(m, g), number);
        CHECK.refused("13", x, x.cutFrames(m, g), number);
        CHECK.refused("14", x, x.cutJobs(m, g), number);
        CHECK.refused("17", x, x.piecesBy(m, g), number);
    }
}
