import java.util.NoSuchElementException;

/** Boundary cases of promises 48 to 50 and of Terms V: idle, size, TROUBLE. */
public final class ToldEdgesTest {
    private static final Check CHECK = new Check("ToldEdgesTest");
    private static final int[] FAR = {-1, Integer.MIN_VALUE, Integer.MAX_VALUE};
    /** JOBS in FRAMES 0 and 2 of 5. */
    private static final String ZERO = Check.mode(4, 0) + Check.task(0, 20, 4, 4) + Check.task(8, 20, 1, 12);
    private static final String ONE = Check.mode(10, 3);
    /** No TABLE. */
    private static final String TWO = Check.mode(7, 0) + Check.task(0, 20, 1, 20);
    private static final String PLAN = ZERO + ";" + ONE + ";" + TWO;

    public static void main(String[] args) {
        CHECK.runAll(ToldEdgesTest.class);
        CHECK.end();
    }

    private interface Call {
        long of(FrameRound x);
    }

    private static int one(boolean answer) {
        return answer ? 1 : 0;
    }

    // ---- promise 48

    private static void idle(String what, FrameRound x, int... due) {
        for (int i = 0; i < due.length; i++) {
            int got;
            try {
                got = x.idle(i);
            } catch (NoSuchElementException e) {
                got = -9;
            }
            CHECK.due(what + " idle " + i, got, due[i]);
        }
        CHECK.idleThrows(what + " the next", x, due.length);
        for (int i : FAR) {
            CHECK.idleThrows(what + " idle " + i, x, i);
        }
    }

    static void promise48_noneSuch() {
        idle("without a PLAN", new FrameRound());
        idle("no TABLE", Check.planned(TWO));
        idle("no TABLE, no FRAMES", Check.planned(Check.mode(60, 0) + Check.task(0, 20, 1, 20)));
        idle("no TABLE of THE CLOCK's mode", Check.planned(TWO + ";" + ONE));
        idle("all have PIECES", Check.planned(Check.mode(4, 0) + Check.task(0, 12, 12, 12)));
        idle("all but the last", Check.planned(Check.mode(4, 0) + Check.task(0, 12, 8, 12)), 2);
        idle("SLACK, but a PIECE", Check.planned(Check.mode(4, 0) + Check.task(0, 12, 9, 12)));
    }

    static void promise48_allAndSome() {
        idle("without TASKS", Check.planned(ONE), 0);
        idle("the least SLACK", Check.planned(Check.mode(60, 59)), 0);
        idle("some", Check.planned(PLAN), 1, 3, 4);
        FrameRound x = Check.planned(Check.mode(4, 0) + Check.task(44, 48, 4, 4) + Check.task(0, 32, 1, 32));
        idle("of 24", x, 1, 2, 3, 4, 5, 6, 7, 9, 10, 12, 13, 14, 15, 17, 18, 19, 20, 21, 22);
    }

    static void promise48_ofTheClocksMode() {
        FrameRound x = Check.planned(PLAN);
        x.run(2);
        idle("wherever THE CLOCK is", x, 1, 3, 4);
        x.change(1);
        idle("at once in mode 1", x, 0);
        x.recost(2, 0, 1);
        idle("in mode 0 again", x, 1, 3, 4);
        x.recost(0, 0, 5);
        idle("no TABLE now", x);
        // One that is to come isn't there yet.
        FrameRound y = Check.planned(Check.mode(4, 0) + Check.task(0, 20, 5, 20) + ";" + ONE);
        y.run(1);
        CHECK.told("later", y, y.change(1), 8);
        idle("not yet", y, 2, 3, 4);
        y.run(1);
        idle("now", y, 0);
    }

    /** 7 | 3, 2 at first; TIDIED 7 | 0, 5: FRAME 2 has none, FRAME 0 still has one. */
    static void promise48_tidied() {
        FrameRound x = Check.planned(Check.mode(10, 0) + Check.task(0, 30, 7, 10) + Check.task(0, 30, 5, 30));
        CHECK.told("TIDIED", x, x.swaps(0), 1);
        idle("behind them", x, 2);
    }

    static void promise48_leavesTrouble() {
        FrameRound x = Check.planned(PLAN);
        x.judge(0, 3);
        x.idle(0);
        CHECK.due("told: TROUBLE stays", x.trouble(), 2);
        CHECK.idleThrows("none such", x, 3);
        CHECK.due("thrown: TROUBLE stays", x.trouble(), 2);
        x.judge(0, 4);
        CHECK.idleThrows("none such", x, 3);
        CHECK.due("0 stays", x.trouble(), 0);
    }

    // ---- promise 49

    static void promise49_numbers() {
        FrameRound x = Check.planned(PLAN);
        int[] due = {3, 3, 3, 0, 0};
        for (int what = 0; what < due.length; what++) {
            CHECK.due("size " + what, x.size(what), due[what]);
        }
        CHECK.due("the next", x.size(5), -1);
        for (int what : FAR) {
            CHECK.due("size " + what, x.size(what), -1);
        }
        FrameRound none = new FrameRound();
        for (int what = 0; what <= 4; what++) {
            CHECK.due("0 for what there isn't", none.size(what), 0);
        }
        CHECK.due("others without a PLAN", none.size(5), -1);
        CHECK.due("others without a PLAN", none.size(-1), -1);
    }

    static void promise49_ofAll() {
        FrameRound x = Check.planned(Check.mode(4, 0) + Check.task(0, 6, 1, 6) + Check.task(0, 4, 1, 4) + ";"
            + Check.mode(4, 0) + ";" + Check.mode(4, 0) + Check.task(0, 7, 1, 7));
        CHECK.due("modes", x.size(0), 3);
        CHECK.due("TASKS", x.size(1), 3);
        CHECK.due("JOBS", x.size(2), 6);
        Check.plan(x, ONE);
        CHECK.due("modes", x.size(0), 1);
        CHECK.due("TASKS", x.size(1), 0);
        CHECK.due("JOBS", x.size(2), 0);
    }

    static void promise49_theTape() {
        FrameRound x = new FrameRound();
        CHECK.due("empty", x.size(3), 0);
        for (int n = 1; n <= 36; n++) {
            x.feed(0, 0, 0, 0, 0);
            CHECK.due("bytes", x.size(3), Math.min(700, 20 * n));
        }
        x.plan(701);
        CHECK.due("it stays", x.size(3), 700);
        x.plan(0);
        CHECK.due("empty", x.size(3), 0);
    }

    static void promise49_kept() {
        FrameRound x = Check.planned(ONE);
        CHECK.due("not kept", x.size(4), 0);
        x.keep();
        CHECK.due("kept", x.size(4), 1);
        x.keep();
        CHECK.due("1 still", x.size(4), 1);
        x.back();
        CHECK.due("1 still", x.size(4), 1);
        x.reserve(0, 3);
        CHECK.due("not since the CHANGE", x.size(4), 0);
    }

    static void promise49_leavesTrouble() {
        FrameRound x = new FrameRound();
        x.plan(1);
        x.size(0);
        CHECK.due("2 stays", x.trouble(), 2);
        x.size(99);
        CHECK.due("2 stays", x.trouble(), 2);
        Check.plan(x, ONE);
        x.size(99);
        CHECK.due("0 stays", x.trouble(), 0);
    }

    // ---- promise 50

    /** Each call that may be refused, as it is answered by the PLAN, and none of them refused. */
    private static final Call[] CALLS = {
        x -> Check.plan(x, PLAN), x -> x.mode(0, 0), x -> x.task(0, 0, 0), x -> x.job(0, 0, 0), x -> x.load(0),
        x -> x.judge(0, 4), x -> x.most(0, 4), x -> x.over(0, 4), x -> x.cutFrames(0, 4), x -> x.cutJobs(0, 4),
        x -> x.goods(0), x -> x.good(0, 0), x -> x.piecesBy(0, 4), x -> x.fewestBy(0), x -> x.headroom(0, 0),
        x -> x.reserveUpTo(0), x -> x.hasTable(0), x -> x.pieces(0), x -> x.swaps(0), x -> x.share(0, 0, 0),
        x -> x.begins(0, 0, 0), x -> x.finishes(0, 0), x -> x.slack(0, 0), x -> x.openAt(0, 0), x -> x.clock(0),
        x -> x.ahead(0, 0), x -> x.take(1, 400), x -> x.waiting(0, 0), x -> x.canTake(1, 400), x -> x.soonest(1),
        x -> x.greatest(400), x -> x.spare(), x -> x.safeEnd(1), x -> x.change(0), x -> one(x.keep()),
        x -> one(x.back()), x -> x.step(0), x -> x.run(1), x -> x.recost(0, 0, 4), x -> x.reframe(0, 4),
        x -> x.reserve(0, 0), x -> x.ticks(0, 1, 1), x -> x.astray(0, 1, 1)};

    /** By each call that isn't refused TROUBLE is 0, whatever it was. */
    static void promise50_notRefused() {
        FrameRound x = Check.planned(PLAN);
        for (int i = 0; i < CALLS.length; i++) {
            x.judge(0, 3);
            CHECK.due("2 ahead of call " + i, x.trouble(), 2);
            CHECK.due("call " + i, CALLS[i].of(x) != -1, true);
            CHECK.due("0 behind call " + i, x.trouble(), 0);
        }
        CHECK.due("all calls but six", CALLS.length, 49 - 6);
    }

    private interface What {
        int of(FrameRound x, int what);
    }

    private static void eachWhat(FrameRound x, int last, What call) {
        for (int what = 0; what <= last; what++) {
            x.judge(0, 3);
            CHECK.due("what " + what, call.of(x, what) != -1, true);
            CHECK.due("0 behind what " + what, x.trouble(), 0);
        }
    }

    /** By each what, and by answers of -2, too. */
    static void promise50_notRefusedByAnyWhat() {
        FrameRound x = Check.planned(PLAN);
        x.take(1, 400);
        eachWhat(x, 6, (y, what) -> y.mode(0, what));
        eachWhat(x, 5, (y, what) -> y.task(0, 0, what));
        eachWhat(x, 5, (y, what) -> y.job(0, 0, what));
        eachWhat(x, 9, (y, what) -> y.clock(what));
        eachWhat(x, 3, (y, what) -> y.ahead(0, what));
        eachWhat(x, 2, (y, what) -> y.waiting(0, what));
        Call[] nothing = {y -> y.headroom(0, 0), y -> y.reserveUpTo(0), y -> y.fewestBy(0), y -> y.job(0, 0, 4),
            y -> y.begins(1, 0, 1), y -> y.soonest(1), y -> y.clock(7), y -> y.clock(8), y -> y.clock(9)};
        FrameRound none = Check.planned(Check.mode(5, 0) + Check.task(1, 3, 1, 2) + Check.task(1, 3, 1, 2) + ";"
            + Check.mode(10, 0) + Check.task(0, 20, 10, 20));
        FrameRound full = Check.planned(Check.mode(5, 0) + Check.task(0, 5, 5, 5) + ";" + Check.mode(10, 0)
            + Check.task(0, 20, 10, 20));
        for (int i = 0; i < nothing.length; i++) {
            FrameRound y = i < 4 ? none : full;
            y.judge(0, 3);
            CHECK.told("nothing " + i, y, nothing[i].of(y), -2);
        }
    }

    /** Without a PLAN each call but plan itself is refused by 1, whatever TROUBLE was. */
    static void promise50_withoutAPlan() {
        FrameRound x = new FrameRound();
        for (int i = 1; i < CALLS.length; i++) {
            x.plan(-1);
            CHECK.due("2 ahead of call " + i, x.trouble(), 2);
            CHECK.due("call " + i, CALLS[i].of(x) <= 0, true);
            CHECK.due("1 behind call " + i, x.trouble(), 1);
        }
        CHECK.due("no PLAN still", x.size(0), 0);
    }

    /** Each number, and that it stays by calls of which none is told. */
    static void promise50_eachNumber() {
        FrameRound x = new FrameRound();
        stays(x, 0);
        x.plan(-1);
        stays(x, 2);
        Check.feed(x, "task");
        x.plan(x.size(3));
        stays(x, 4);
        Check.feed(x, PLAN);
        x.plan(x.size(3));
        stays(x, 0);
        x.mode(3, 0);
        stays(x, 1);
        x.judge(0, 97);
        stays(x, 2);
        for (int i = 0; i < 9; i++) {
            x.take(1, 400);
        }
        stays(x, 3);
        x.pieces(2);
        stays(x, 5);
        x.take(1, 399);
        stays(x, 3);
        x.run(2);
        stays(x, 0);
        x.take(400, 401);
        stays(x, 5);
        x.back();
        stays(x, 1);
        x.ticks(0, -1, 1);
        stays(x, 2);
        x.load(3);
        stays(x, 1);
        x.change(2);
        stays(x, 5);
        x.keep();
        stays(x, 0);
    }

    private static void stays(FrameRound x, int number) {
        CHECK.due("TROUBLE", x.trouble(), number);
        CHECK.due("told twice", x.trouble(), number);
        x.fault();
        x.where();
        x.size(0);
        x.size(5);
        x.feed(0x20202020, 0x20202020, 0x20202020, 0x20202020, 0x20202020);
        CHECK.idleThrows("none such", x, 99);
        CHECK.due("it stays", x.trouble(), number);
    }

    /** Refusals are met in the order in which they are told: with all of them at once the first. */
    static void promise50_theFirstOfSeveral() {
        FrameRound x = Check.planned(TWO + ";" + ONE);
        CHECK.refused("piecesBy 1, 2, 5", x, x.piecesBy(2, 3), 1);
        CHECK.refused("piecesBy 2, 5", x, x.piecesBy(0, 3), 2);
        CHECK.refused("piecesBy 5", x, x.piecesBy(0, 7), 5);
        CHECK.refused("share 1, 5", x, x.share(0, 1, 0), 1);
        CHECK.refused("share 5", x, x.share(0, 0, 0), 5);
        CHECK.refused("ahead 1, 5, 2", x, x.ahead(100, 4), 1);
        CHECK.refused("ahead 5, 2", x, x.ahead(100, 0), 5);
        CHECK.refused("take 5, 2", x, x.take(0, 0), 5);
        CHECK.refused("soonest 5, 2", x, x.soonest(0), 5);
        CHECK.refused("greatest 5, 2", x, x.greatest(0), 5);
        CHECK.refused("step 5, 2", x, x.step(-1), 5);
        CHECK.refused("run 5, 2", x, x.run(0), 5);
        CHECK.refused("change 1, 5", x, x.change(2), 1);
        CHECK.refused("recost 1, 2", x, x.recost(1, 0, 0), 1);
        CHECK.refused("reframe 1, 2", x, x.reframe(2, 0), 1);
        CHECK.refused("reserve 1, 2", x, x.reserve(2, 60), 1);
        CHECK.refused("ticks 1, 2", x, x.ticks(2, -1, 0), 1);
        CHECK.refused("astray 1, 2", x, x.astray(2, -1, 0), 1);
        x.reframe(0, 10);
        CHECK.refused("ahead 2", x, x.ahead(100, 0), 2);
        for (int i = 0; i < 8; i++) {
            x.take(1, 400);
        }
        CHECK.refused("take 2, 3, 5", x, x.take(401, 5), 2);
        CHECK.refused("take 3, 5", x, x.take(400, 5), 3);
    }
}
