import java.util.Arrays;
import java.util.NoSuchElementException;

/** A maker of cyclic schedules; the words in capitals are those of the document. */
public final class FrameRound {
    public static final int NONE = -1;

    /** The answer of calls that are not refused and yet find nothing. */
    private static final int NOTHING = -2;

    private static final int NO_SUCH = 1;
    private static final int BAD_NUMBER = 2;
    private static final int NO_ROOM = 3;
    private static final int FAULTY = 4;
    private static final int NOT_SO = 5;

    private static final int TAPE_ROOM = 700;
    private static final int FEED_BYTES = 20;
    private static final int MODE_ROOM = 3;
    private static final int TASK_ROOM = 6;
    private static final int JOB_ROOM = 24;
    /** A ROUND is 96 at most and a FRAME 4 at least. */
    private static final int FRAME_ROOM = 24;
    private static final int LONGEST_ROUND = 96;
    private static final int WAITING_ROOM = 8;

    private static final int LEAST_FRAME = 4;
    private static final int GREATEST_FRAME = 60;
    private static final int GREATEST_RESERVE = 59;
    private static final int GREATEST_PHASE = 59;
    private static final int GREATEST_PERIOD = 60;
    private static final int GREATEST_COST = 60;
    private static final int GREATEST_LENGTH = 96;
    private static final int GREATEST_NEED = 400;
    /** How much later than NOW a DUE may be; none WAITING is ever due later. */
    private static final int FARTHEST_DUE = 400;
    private static final int GREATEST_OVERRUN = 99;
    private static final int GREATEST_AHEAD = 99;
    private static final int MOST_STEPS = 100;
    private static final int MOST_TIMED_FRAMES = 100000;
    private static final int GREATEST_HZ = 100000;
    /** More than any count or sum of UNITS here can be. */
    private static final int PLENTY = 1000000;

    private static final int LENGTH_NOT_IN_ROUND = 1;
    private static final int COST_OVER_ROOM = 2;
    private static final int REACH_OVER_SPAN = 4;
    private static final int EMPTY_WINDOW = 8;
    private static final int NO_FIT = 16;

    private final Reader reader;
    /** The PLAN; without one it has no modes. */
    private Plan plan;
    /** By mode, each by the FRAME of its mode; anew with each PLAN and CHANGE. */
    private final Table[] tables;
    /** For questions about other lengths, COSTS and RESERVES. */
    private final Table trial;
    private final Supply supply;
    private final Clock clock;
    private final Clock kept;
    private boolean isKept;
    private int trouble;
    private int fault;
    private int place;

    public FrameRound() {
        reader = new Reader();
        plan = new Plan();
        tables = new Table[MODE_ROOM];
        for (int m = 0; m < MODE_ROOM; m++) {
            tables[m] = new Table();
        }
        trial = new Table();
        supply = new Supply();
        clock = new Clock();
        kept = new Clock();
        place = NONE;
    }

    // ---- the plan

    public int feed(int a, int b, int c, int d, int e) {
        if (reader.bytes > TAPE_ROOM - FEED_BYTES) {
            return NONE;
        }
        reader.append(a);
        reader.append(b);
        reader.append(c);
        reader.append(d);
        reader.append(e);
        return reader.bytes;
    }

    public int plan(int n) {
        if (n < 0 || n > reader.bytes) {
            return refused(BAD_NUMBER);
        }
        fault = reader.read(n);
        if (fault != 0) {
            place = reader.place;
            return refused(FAULTY);
        }
        Plan former = plan;
        plan = reader.draft;
        reader.draft = former;
        for (int m = 0; m < plan.modes; m++) {
            tables[m].make(plan.mode[m], plan.mode[m].frame);
        }
        beginClock();
        return answered(plan.modes);
    }

    public int fault() {
        return fault;
    }

    public int where() {
        return trouble == FAULTY ? place : NONE;
    }

    private int refused(int number) {
        trouble = number;
        return NONE;
    }

    private int answered(int value) {
        trouble = 0;
        return value;
    }

    private void beginClock() {
        clock.begin();
        isKept = false;
    }

    // ---- modes, tasks, jobs

    public int mode(int m, int what) {
        if (!isMode(m) || what < 0 || what > 6) {
            return refused(NO_SUCH);
        }
        Mode of = plan.mode[m];
        switch (what) {
            case 0:
                return answered(of.frame);
            case 1:
                return answered(of.reserve);
            case 2:
                return answered(of.tasks);
            case 3:
                return answered(of.round());
            case 4:
                return answered(of.jobs);
            case 5:
                return answered(tables[m].flow.frames);
            default:
                return answered(tables[m].flow.allCosts());
        }
    }

    public int task(int m, int t, int what) {
        if (!isTask(m, t) || what < 0 || what > 5) {
            return refused(NO_SUCH);
        }
        Mode of = plan.mode[m];
        switch (what) {
            case 0:
                return answered(of.phase[t]);
            case 1:
                return answered(of.period[t]);
            case 2:
                return answered(of.cost[t]);
            case 3:
                return answered(of.span[t]);
            case 4:
                return answered(of.jobsOf(t));
            default:
                return answered(of.reach(t, of.frame));
        }
    }

    public int job(int m, int j, int what) {
        if (!isJob(m, j) || what < 0 || what > 5) {
            return refused(NO_SUCH);
        }
        Flow flow = tables[m].flow;
        switch (what) {
            case 0:
                return answered(flow.task[j]);
            case 1:
                return answered(flow.release[j]);
            case 2:
                return answered(flow.due[j]);
            case 3:
                return answered(flow.cost[j]);
            case 4:
                return answered(flow.isEmpty(j) ? NOTHING : flow.first[j]);
            default:
                return answered(flow.isEmpty(j) ? NOTHING : flow.last[j]);
        }
    }

    public long load(int m) {
        if (!isMode(m)) {
            return (long) refused(NO_SUCH);
        }
        trouble = 0;
        Mode of = plan.mode[m];
        double sum = 0.0;
        for (int t = 0; t < of.tasks; t++) {
            if (of.period[t] > 0) {
                sum = sum + (double) of.cost[t] / (double) of.period[t];
            }
        }
        return Timer.bits(sum, 52, 1023);
    }

    private boolean isMode(int m) {
        return m >= 0 && m < plan.modes;
    }

    private boolean isTask(int m, int t) {
        return isMode(m) && t >= 0 && t < plan.mode[m].tasks;
    }

    private boolean isJob(int m, int j) {
        return isMode(m) && j >= 0 && j < plan.mode[m].jobs;
    }

    private boolean isFrame(int m, int k) {
        return isMode(m) && k >= 0 && k < tables[m].flow.frames;
    }

    // ---- lengths

    public int judge(int m, int g) {
        int refusal = lengthRefusal(m, g);
        return refusal != 0 ? refused(refusal) : answered(judgement(plan.mode[m], g));
    }

    public int most(int m, int g) {
        int refusal = lengthRefusal(m, g);
        if (refusal != 0) {
            return refused(refusal);
        }
        return answered(spreadBy(m, g));
    }

    public int over(int m, int g) {
        int refusal = lengthRefusal(m, g);
        if (refusal != 0) {
            return refused(refusal);
        }
        int most = spreadBy(m, g);
        return answered(trial.flow.allCosts() - most);
    }

    public int cutFrames(int m, int g) {
        int refusal = lengthRefusal(m, g);
        if (refusal != 0) {
            return refused(refusal);
        }
        spreadBy(m, g);
        return answered(trial.flow.cut());
    }

    public int cutJobs(int m, int g) {
        int refusal = lengthRefusal(m, g);
        if (refusal != 0) {
            return refused(refusal);
        }
        spreadBy(m, g);
        return answered(trial.flow.jobsWithin(trial.flow.cut()));
    }

    public int goods(int m) {
        if (!isMode(m)) {
            return refused(NO_SUCH);
        }
        int count = 0;
        for (int g = LEAST_FRAME; g <= GREATEST_LENGTH; g++) {
            if (isGood(plan.mode[m], g)) {
                count++;
            }
        }
        return answered(count);
    }

    public int good(int m, int i) {
        if (!isMode(m) || i < 0) {
            return refused(NO_SUCH);
        }
        int ahead = i;
        for (int g = LEAST_FRAME; g <= GREATEST_LENGTH; g++) {
            if (isGood(plan.mode[m], g)) {
                if (ahead == 0) {
                    return answered(g);
                }
                ahead--;
            }
        }
        return refused(NO_SUCH);
    }

    public int piecesBy(int m, int g) {
        int refusal = lengthRefusal(m, g);
        if (refusal != 0) {
            return refused(refusal);
        }
        trial.make(plan.mode[m], g);
        return trial.isMade ? answered(trial.pieces) : refused(NOT_SO);
    }

    public int fewestBy(int m) {
        if (!isMode(m)) {
            return refused(NO_SUCH);
        }
        int best = NOTHING;
        int fewest = 0;
        for (int g = LEAST_FRAME; g <= GREATEST_LENGTH; g++) {
            if (!plan.mode[m].isInRound(g)) {
                continue;
            }
            trial.make(plan.mode[m], g);
            if (trial.isMade && (best == NOTHING || trial.pieces <= fewest)) {
                best = g;
                fewest = trial.pieces;
            }
        }
        return answered(best);
    }

    public int headroom(int m, int t) {
        if (!isTask(m, t)) {
            return refused(NO_SUCH);
        }
        Flow flow = trial.flow;
        flow.lay(plan.mode[m], plan.mode[m].frame, plan.mode[m].reserve);
        if (!flow.fitsWithCost(t, 0)) {
            return answered(NOTHING);
        }
        int greatest = 0;
        // What FITS by a COST does by each that is less, so the bits can be found one by one.
        for (int bit = 32; bit > 0; bit /= 2) {
            int tried = greatest + bit;
            if (tried <= GREATEST_COST && flow.fitsWithCost(t, tried)) {
                greatest = tried;
            }
        }
        return answered(greatest);
    }

    public int reserveUpTo(int m) {
        if (!isMode(m)) {
            return refused(NO_SUCH);
        }
        Mode of = plan.mode[m];
        if (!fitsWithReserve(of, 0)) {
            return answered(NOTHING);
        }
        int greatest = 0;
        // What FITS by a RESERVE does by each that is less.
        for (int bit = 32; bit > 0; bit /= 2) {
            int tried = greatest + bit;
            if (tried < of.frame && fitsWithReserve(of, tried)) {
                greatest = tried;
            }
        }
        return answered(greatest);
    }

    private int lengthRefusal(int m, int g) {
        if (!isMode(m)) {
            return NO_SUCH;
        }
        return g < LEAST_FRAME || g > GREATEST_LENGTH ? BAD_NUMBER : 0;
    }

    private int spreadBy(int m, int g) {
        trial.flow.lay(plan.mode[m], g, plan.mode[m].reserve);
        return trial.flow.spread();
    }

    private int judgement(Mode of, int g) {
        Flow flow = trial.flow;
        flow.lay(of, g, of.reserve);
        int bits = of.isInRound(g) ? 0 : LENGTH_NOT_IN_ROUND;
        for (int t = 0; t < of.tasks; t++) {
            if (of.cost[t] > flow.room) {
                bits |= COST_OVER_ROOM;
            }
            if (of.reach(t, g) > of.span[t]) {
                bits |= REACH_OVER_SPAN;
            }
        }
        if (flow.hasEmptyWindow()) {
            bits |= EMPTY_WINDOW;
        }
        if (!flow.fits()) {
            bits |= NO_FIT;
        }
        return bits;
    }

    private boolean isGood(Mode of, int g) {
        if (!of.isInRound(g)) {
            return false;
        }
        trial.flow.lay(of, g, of.reserve);
        return trial.flow.isGoodIn(of);
    }

    private boolean fitsWithReserve(Mode of, int tried) {
        trial.flow.lay(of, of.frame, tried);
        return trial.flow.fits();
    }

    // ---- tables

    public int hasTable(int m) {
        if (!isMode(m)) {
            return refused(NO_SUCH);
        }
        return answered(tables[m].isMade ? 1 : 0);
    }

    public int pieces(int m) {
        int refusal = tableRefusal(m, isMode(m));
        return refusal != 0 ? refused(refusal) : answered(tables[m].pieces);
    }

    public int swaps(int m) {
        int refusal = tableRefusal(m, isMode(m));
        return refusal != 0 ? refused(refusal) : answered(tables[m].swaps);
    }

    public int share(int m, int j, int k) {
        int refusal = tableRefusal(m, isJob(m, j) && isFrame(m, k));
        return refusal != 0 ? refused(refusal) : answered(tables[m].flow.units[j][k]);
    }

    public int begins(int m, int j, int k) {
        int refusal = tableRefusal(m, isJob(m, j) && isFrame(m, k));
        if (refusal != 0) {
            return refused(refusal);
        }
        return answered(tables[m].flow.units[j][k] == 0 ? NOTHING : tables[m].pieceStart(j, k));
    }

    public int finishes(int m, int j) {
        int refusal = tableRefusal(m, isJob(m, j));
        return refusal != 0 ? refused(refusal) : answered(tables[m].lastEnd(j));
    }

    public int slack(int m, int k) {
        int refusal = tableRefusal(m, isFrame(m, k));
        return refusal != 0 ? refused(refusal) : answered(tables[m].flow.slack[k]);
    }

    public int openAt(int m, int k) {
        int refusal = tableRefusal(m, isFrame(m, k));
        return refusal != 0 ? refused(refusal) : answered(tables[m].openJobs(k));
    }

    private int tableRefusal(int m, boolean isThere) {
        if (!isMode(m) || !isThere) {
            return NO_SUCH;
        }
        return tables[m].isMade ? 0 : NOT_SO;
    }

    // ---- the clock

    public int clock(int what) {
        if (plan.modes == 0 || what < 0 || what > 9) {
            return refused(NO_SUCH);
        }
        return answered(clock.tell(what));
    }

    public int ahead(int n, int what) {
        if (plan.modes == 0 || what < 0 || what > 3) {
            return refused(NO_SUCH);
        }
        int refusal = clockRefusal(n >= 0 && n <= GREATEST_AHEAD);
        if (refusal != 0) {
            return refused(refusal);
        }
        switch (what) {
            case 0:
                return answered(beginningAhead(n));
            case 1:
                return answered(modeAhead(n));
            case 2:
                return answered(frameAhead(n));
            default:
                return answered(slackAhead(n));
        }
    }

    public int waiting(int i, int what) {
        if (i < 0 || i >= clock.waiting || what < 0 || what > 2) {
            return refused(NO_SUCH);
        }
        switch (what) {
            case 0:
                return answered(clock.need[i]);
            case 1:
                return answered(clock.due[i]);
            default:
                return answered(endOfWaiting(i));
        }
    }

    public int canTake(int need, int due) {
        int refusal = clockRefusal(isNeed(need) && isDue(due));
        if (refusal != 0) {
            return refused(refusal);
        }
        surveyAhead();
        return answered(supply.leftFor(clock, due) >= need ? 1 : 0);
    }

    public int take(int need, int due) {
        int refusal = clockRefusal(isNeed(need) && isDue(due));
        if (refusal != 0) {
            return refused(refusal);
        }
        if (clock.waiting >= WAITING_ROOM) {
            return refused(NO_ROOM);
        }
        surveyAhead();
        if (supply.leftFor(clock, due) < need) {
            return refused(NOT_SO);
        }
        return answered(clock.add(need, due));
    }

    public int soonest(int need) {
        int refusal = clockRefusal(isNeed(need));
        if (refusal != 0) {
            return refused(refusal);
        }
        surveyAhead();
        for (int later = 1; later <= FARTHEST_DUE; later++) {
            if (supply.upTo(later) >= need && supply.leftFor(clock, clock.now + later) >= need) {
                return answered(clock.now + later);
            }
        }
        return answered(NOTHING);
    }

    public int greatest(int due) {
        int refusal = clockRefusal(isDue(due));
        if (refusal != 0) {
            return refused(refusal);
        }
        surveyAhead();
        int left = supply.leftFor(clock, due);
        return answered(Math.max(0, Math.min(left, GREATEST_NEED)));
    }

    public int spare() {
        int refusal = clockRefusal(true);
        return refusal != 0 ? refused(refusal) : answered(spareNow());
    }

    public int step(int overrun) {
        int refusal = clockRefusal(overrun >= 0 && overrun <= GREATEST_OVERRUN);
        if (refusal != 0) {
            return refused(refusal);
        }
        int got = overrun == 0 ? 0 : Math.min(overrun, spareNow());
        clock.overran += got;
        clock.cutOff += overrun - got;
        goThroughFrame(got);
        return answered(got);
    }

    public int run(int n) {
        int refusal = clockRefusal(n >= 1 && n <= MOST_STEPS);
        if (refusal != 0) {
            return refused(refusal);
        }
        int before = clock.done;
        for (int i = 0; i < n; i++) {
            goThroughFrame(0);
        }
        return answered(clock.done - before);
    }

    public int safeEnd(int m) {
        int refusal = switchRefusal(m);
        return refusal != 0 ? refused(refusal) : answered(firstSafeEnd(m));
    }

    public int change(int m) {
        int refusal = switchRefusal(m);
        if (refusal != 0) {
            return refused(refusal);
        }
        int time = firstSafeEnd(m);
        clock.nextMode = m;
        clock.nextTime = time;
        clock.switchIfTime();
        return answered(time);
    }

    public boolean keep() {
        if (plan.modes == 0) {
            trouble = NO_SUCH;
            return false;
        }
        trouble = 0;
        kept.become(clock);
        isKept = true;
        return true;
    }

    public boolean back() {
        if (!isKept) {
            trouble = NO_SUCH;
            return false;
        }
        trouble = 0;
        clock.become(kept);
        return true;
    }

    private int clockRefusal(boolean areNumbersRight) {
        if (plan.modes == 0) {
            return NO_SUCH;
        }
        if (!tables[clock.mode].isMade) {
            return NOT_SO;
        }
        return areNumbersRight ? 0 : BAD_NUMBER;
    }

    private int switchRefusal(int m) {
        if (!isMode(m)) {
            return NO_SUCH;
        }
        boolean haveTables = tables[clock.mode].isMade && tables[m].isMade;
        return haveTables && !clock.hasSwitch() ? 0 : NOT_SO;
    }

    private static boolean isNeed(int need) {
        return need >= 1 && need <= GREATEST_NEED;
    }

    private boolean isDue(int due) {
        return due > clock.now && due <= clock.now + FARTHEST_DUE;
    }

    /** How many FRAMES AHEAD are in the mode that THE CLOCK is in. */
    private int framesToSwitch() {
        int length = tables[clock.mode].flow.length;
        if (!clock.hasSwitch() || length <= 0) {
            return PLENTY;
        }
        return (clock.nextTime - clock.now) / length;
    }

    private int modeAhead(int n) {
        return n < framesToSwitch() ? clock.mode : clock.nextMode;
    }

    private int frameAhead(int n) {
        int before = framesToSwitch();
        int count = tables[modeAhead(n)].flow.frames;
        if (count <= 0) {
            return 0;
        }
        return n < before ? (clock.frame + n) % count : (n - before) % count;
    }

    private int beginningAhead(int n) {
        int before = framesToSwitch();
        int length = tables[modeAhead(n)].flow.length;
        return n < before ? clock.now + n * length : clock.nextTime + (n - before) * length;
    }

    private int slackAhead(int n) {
        return tables[modeAhead(n)].flow.slack[frameAhead(n)];
    }

    private int endOfWaiting(int i) {
        int needed = clock.needsUpTo(i);
        int sum = 0;
        // All WAITING are IN TIME, so it is DONE by a FRAME that ends no later than its DUE.
        for (int n = 0; n < FARTHEST_DUE; n++) {
            sum += slackAhead(n);
            if (sum >= needed) {
                return beginningAhead(n) + tables[modeAhead(n)].flow.length;
            }
        }
        return NOTHING;
    }

    private void surveyAhead() {
        Supply.sumUp(supply.own, tables[clock.mode].flow, clock.frame);
        supply.switchAfter = FARTHEST_DUE;
        if (clock.hasSwitch()) {
            Supply.sumUp(supply.other, tables[clock.nextMode].flow, 0);
            supply.switchAfter = clock.nextTime - clock.now;
        }
    }

    private int spareNow() {
        surveyAhead();
        int slack = tables[clock.mode].flow.slack[clock.frame];
        return Math.max(0, Math.min(slack, supply.margin(clock)));
    }

    private void goThroughFrame(int overrun) {
        Flow flow = tables[clock.mode].flow;
        clock.advance(flow.slack[clock.frame] - overrun, flow.length, flow.frames);
    }

    private int firstSafeEnd(int m) {
        Table own = tables[clock.mode];
        Supply.sumUp(supply.own, own.flow, clock.frame);
        Supply.sumUp(supply.other, tables[m].flow, 0);
        int frame = clock.frame;
        // Behind the last DUE all are IN TIME, and each ROUND's end is safe for JOBS.
        for (int after = 0; after <= FARTHEST_DUE + 2 * LONGEST_ROUND; after += Math.max(1, own.flow.length)) {
            supply.switchAfter = after;
            if (own.openJobs(frame) == 0 && supply.margin(clock) >= 0) {
                return clock.now + after;
            }
            frame = frame + 1 < own.flow.frames ? frame + 1 : 0;
        }
        return NONE;
    }

    // ---- changes

    public int recost(int m, int t, int cost) {
        if (!isTask(m, t)) {
            return refused(NO_SUCH);
        }
        if (cost < 1 || cost > GREATEST_COST) {
            return refused(BAD_NUMBER);
        }
        int former = plan.mode[m].cost[t];
        plan.mode[m].cost[t] = cost;
        makeAnew(m);
        return answered(former);
    }

    public int reframe(int m, int frame) {
        if (!isMode(m)) {
            return refused(NO_SUCH);
        }
        Mode of = plan.mode[m];
        if (frame < LEAST_FRAME || frame > GREATEST_FRAME || frame <= of.reserve) {
            return refused(BAD_NUMBER);
        }
        int former = of.frame;
        of.frame = frame;
        makeAnew(m);
        return answered(former);
    }

    public int reserve(int m, int reserve) {
        if (!isMode(m)) {
            return refused(NO_SUCH);
        }
        Mode of = plan.mode[m];
        if (reserve < 0 || reserve > GREATEST_RESERVE || reserve >= of.frame) {
            return refused(BAD_NUMBER);
        }
        int former = of.reserve;
        of.reserve = reserve;
        makeAnew(m);
        return answered(former);
    }

    private void makeAnew(int m) {
        tables[m].make(plan.mode[m], plan.mode[m].frame);
        beginClock();
    }

    // ---- timers

    public long ticks(int m, int n, int hz) {
        int refusal = timerRefusal(m, n, hz);
        if (refusal != 0) {
            return (long) refused(refusal);
        }
        trouble = 0;
        return (long) ((double) (n * plan.mode[m].frame) / Timer.tick(hz));
    }

    public int astray(int m, int n, int hz) {
        int refusal = timerRefusal(m, n, hz);
        if (refusal != 0) {
            return refused(refusal);
        }
        double rest = Timer.leftOver((double) (n * plan.mode[m].frame), Timer.tick(hz));
        float told = (float) rest;
        return answered((int) Timer.bits((double) told, 23, 127));
    }

    private int timerRefusal(int m, int n, int hz) {
        if (!isMode(m)) {
            return NO_SUCH;
        }
        boolean isRight = n >= 0 && n <= MOST_TIMED_FRAMES && hz >= 1 && hz <= GREATEST_HZ;
        return isRight ? 0 : BAD_NUMBER;
    }

    // ---- what is told

    public int idle(int i) throws NoSuchElementException {
        if (plan.modes == 0 || i < 0) {
            throw new NoSuchElementException();
        }
        int frame = tables[clock.mode].emptyFrame(i);
        if (frame < 0) {
            throw new NoSuchElementException();
        }
        return frame;
    }

    public int size(int what) {
        switch (what) {
            case 0:
                return plan.modes;
            case 1:
                return plan.allTasks();
            case 2:
                return plan.allJobs();
            case 3:
                return reader.bytes;
            case 4:
                return isKept ? 1 : 0;
            default:
                return NONE;
        }
    }

    public int trouble() {
        return trouble;
    }

    private static int commonDivisor(int a, int b) {
        int x = a;
        int y = b;
        // Two turns halve it, so ints never need as many as these.
        for (int n = 0; n < 64 && y > 0; n++) {
            int rest = x % y;
            x = y;
            y = rest;
        }
        return x;
    }

    private static final class Plan {
        int modes;
        final Mode[] mode;

        Plan() {
            mode = new Mode[MODE_ROOM];
            for (int m = 0; m < MODE_ROOM; m++) {
                mode[m] = new Mode();
            }
        }

        int allTasks() {
            int sum = 0;
            for (int m = 0; m < modes; m++) {
                sum += mode[m].tasks;
            }
            return sum;
        }

        int allJobs() {
            int sum = 0;
            for (int m = 0; m < modes; m++) {
                sum += mode[m].jobs;
            }
            return sum;
        }
    }

    private static final class Mode {
        int frame;
        int reserve;
        int tasks;
        int jobs;
        /** The least common multiple of the PERIODS, 1 while there are none. */
        int common;
        final int[] phase;
        final int[] period;
        final int[] cost;
        final int[] span;
        /** By JOB, its TASK and its RELEASE. */
        final int[] jobTask;
        final int[] jobRelease;

        Mode() {
            phase = new int[TASK_ROOM];
            period = new int[TASK_ROOM];
            cost = new int[TASK_ROOM];
            span = new int[TASK_ROOM];
            jobTask = new int[JOB_ROOM];
            jobRelease = new int[JOB_ROOM];
        }

        void begin(int itsFrame, int itsReserve) {
            frame = itsFrame;
            reserve = itsReserve;
            tasks = 0;
            jobs = 0;
            common = 1;
        }

        int round() {
            return tasks == 0 ? frame : common;
        }

        boolean isInRound(int g) {
            return g > 0 && round() % g == 0;
        }

        int commonWith(int another) {
            int divisor = commonDivisor(common, another);
            return divisor > 0 ? common / divisor * another : common;
        }

        int jobsWith(int another) {
            int all = commonWith(another);
            int sum = another > 0 ? all / another : 0;
            for (int t = 0; t < tasks; t++) {
                sum += period[t] > 0 ? all / period[t] : 0;
            }
            return sum;
        }

        int jobsOf(int t) {
            return period[t] > 0 ? common / period[t] : 0;
        }

        /** One TASK more, whose COST and SPAN are told later; its number. */
        int addTask(int itsPhase, int itsPeriod) {
            int t = Math.min(tasks, TASK_ROOM - 1);
            common = commonWith(itsPeriod);
            phase[t] = itsPhase;
            period[t] = itsPeriod;
            tasks = t + 1;
            return t;
        }

        void numberJobs() {
            jobs = 0;
            for (int time = 0; time < common; time++) {
                for (int t = 0; t < tasks; t++) {
                    if (isReleased(t, time) && jobs < JOB_ROOM) {
                        jobTask[jobs] = t;
                        jobRelease[jobs] = time;
                        jobs++;
                    }
                }
            }
        }

        private boolean isReleased(int t, int time) {
            return time >= phase[t] && period[t] > 0 && (time - phase[t]) % period[t] == 0;
        }

        int reach(int t, int g) {
            int divisor = commonDivisor(g, period[t]);
            int over = divisor > 0 ? phase[t] % divisor : 0;
            return 2 * g - (over == 0 ? divisor : over);
        }
    }

    /** THE TAPE, and what reads the text of a PLAN on it, up to its first FAULT. */
    private static final class Reader {
        private static final int FORM = 1;
        private static final int BOUNDS = 2;
        private static final int MANY = 3;
        private static final int LACKS = 4;
        private static final int LONG = 5;
        private static final int CROWDED = 6;

        private static final int OTHER = 0;
        private static final int WORD = 1;
        private static final int WHOLE = 2;
        private static final int MARK = 3;
        private static final int END = 4;
        private static final int LONGEST_WORD = 7;
        private static final int LONGEST_WHOLE = 3;

        private final byte[] tape;
        int bytes;
        /** How many bytes the text has. */
        private int length;
        private int at;
        private int kind;
        private int start;
        private int number;
        private int fault;
        int place;
        /** Apart from the PLAN, which stays if the text has a FAULT. */
        Plan draft;

        Reader() {
            tape = new byte[TAPE_ROOM];
            draft = new Plan();
        }

        void append(int four) {
            for (int shift = 24; shift >= 0; shift -= 8) {
                if (bytes < TAPE_ROOM) {
                    tape[bytes] = (byte) (four >>> shift);
                    bytes++;
                }
            }
        }

        /** The FAULT, whose place is kept, or 0; THE TAPE is empty then. */
        int read(int n) {
            length = Math.min(n, bytes);
            bytes = 0;
            at = 0;
            draft.modes = 0;
            fault = 0;
            // Each LINE but the last has a byte at least.
            for (int lines = 0; lines <= length; lines++) {
                next();
                boolean isRead = isWord("mode") ? readMode() : isWord("task") ? readTask() : fail(FORM);
                if (!isRead) {
                    return fault;
                }
                next();
                if (kind == END) {
                    break;
                }
                if (kind != MARK) {
                    fail(FORM);
                    return fault;
                }
            }
            if (draft.modes == 0) {
                fail(LACKS);
            }
            for (int m = 0; m < draft.modes; m++) {
                draft.mode[m].numberJobs();
            }
            return fault;
        }

        /** A FAULT at the latest TOKEN; always false. */
        private boolean fail(int itsNumber) {
            fault = itsNumber;
            place = start;
            return false;
        }

        private boolean readMode() {
            if (draft.modes >= MODE_ROOM) {
                return fail(MANY);
            }
            if (!readPart("frame", LEAST_FRAME, GREATEST_FRAME)) {
                return false;
            }
            int frame = number;
            if (!readPart("reserve", 0, Math.min(GREATEST_RESERVE, frame - 1))) {
                return false;
            }
            draft.mode[draft.modes].begin(frame, number);
            draft.modes++;
            return true;
        }

        private boolean readTask() {
            if (draft.modes == 0) {
                return fail(LACKS);
            }
            Mode mode = draft.mode[draft.modes - 1];
            if (mode.tasks >= TASK_ROOM) {
                return fail(MANY);
            }
            if (!readPart("phase", 0, GREATEST_PHASE)) {
                return false;
            }
            int phase = number;
            if (!readPart("every", phase + 1, GREATEST_PERIOD)) {
                return false;
            }
            int period = number;
            if (mode.commonWith(period) > LONGEST_ROUND) {
                return fail(LONG);
            }
            if (mode.jobsWith(period) > JOB_ROOM) {
                return fail(CROWDED);
            }
            int t = mode.addTask(phase, period);
            if (!readPart("costs", 1, GREATEST_COST)) {
                return false;
            }
            mode.cost[t] = number;
            // What is left of a PERIOD behind a PHASE is 60 at most, as a SPAN must be.
            if (!readPart("within", 1, period - phase)) {
                return false;
            }
            mode.span[t] = number;
            return true;
        }

        private boolean readPart(String word, int least, int greatest) {
            next();
            if (!isWord(word)) {
                return fail(FORM);
            }
            next();
            if (kind != WHOLE) {
                return fail(FORM);
            }
            return number >= least && number <= greatest || fail(BOUNDS);
        }

        private boolean isWord(String word) {
            if (kind != WORD || at - start != word.length()) {
                return false;
            }
            for (int i = 0; i < word.length(); i++) {
                if (signAt(start + i) != word.charAt(i)) {
                    return false;
                }
            }
            return true;
        }

        private int signAt(int i) {
            return i >= 0 && i < length ? tape[i] & 255 : 0;
        }

        private void next() {
            while (at < length && signAt(at) == ' ') {
                at++;
            }
            start = at;
            if (at >= length) {
                kind = END;
            } else if (signAt(at) == ';') {
                kind = MARK;
                at++;
            } else if (isLetter(signAt(at))) {
                nextWord();
            } else if (isDigit(signAt(at))) {
                nextWhole();
            } else {
                kind = OTHER;
            }
        }

        private void nextWord() {
            while (at < length && isLetter(signAt(at))) {
                at++;
            }
            kind = at - start <= LONGEST_WORD ? WORD : OTHER;
        }

        private void nextWhole() {
            number = 0;
            while (at < length && isDigit(signAt(at))) {
                number = number * 10 + (signAt(at) - '0');
                at++;
            }
            kind = at - start <= LONGEST_WHOLE ? WHOLE : OTHER;
        }

        private static boolean isLetter(int sign) {
            return sign >= 'a' && sign <= 'z';
        }

        private static boolean isDigit(int sign) {
            return sign >= '0' && sign <= '9';
        }
    }

    /** JOBS of a mode against FRAMES of a length, and UNITS of the one in the other. */
    private static final class Flow {
        int length;
        int room;
        int frames;
        int jobs;
        final int[] task;
        final int[] release;
        final int[] due;
        final int[] cost;
        final int[] first;
        final int[] last;
        /** UNITS of each JOB that are in no FRAME. */
        final int[] left;
        final int[] slack;
        final int[][] units;

        Flow() {
            task = new int[JOB_ROOM];
            release = new int[JOB_ROOM];
            due = new int[JOB_ROOM];
            cost = new int[JOB_ROOM];
            first = new int[JOB_ROOM];
            last = new int[JOB_ROOM];
            left = new int[JOB_ROOM];
            slack = new int[FRAME_ROOM];
            units = new int[JOB_ROOM][FRAME_ROOM];
        }

        void lay(Mode mode, int g, int reserve) {
            length = Math.max(1, g);
            room = Math.max(0, g - reserve);
            frames = Math.min(FRAME_ROOM, mode.round() / length);
            jobs = Math.min(JOB_ROOM, mode.jobs);
            for (int j = 0; j < jobs; j++) {
                task[j] = mode.jobTask[j];
                release[j] = mode.jobRelease[j];
                due[j] = release[j] + mode.span[task[j]];
                cost[j] = mode.cost[task[j]];
                first[j] = (release[j] + length - 1) / length;
                last[j] = due[j] / length - 1;
            }
        }

        boolean isEmpty(int j) {
            return first[j] > last[j];
        }

        boolean hasEmptyWindow() {
            for (int j = 0; j < jobs; j++) {
                if (isEmpty(j)) {
                    return true;
                }
            }
            return false;
        }

        int allCosts() {
            int sum = 0;
            for (int j = 0; j < jobs; j++) {
                sum += cost[j];
            }
            return sum;
        }

        boolean isGoodIn(Mode mode) {
            return mode.isInRound(length) && !hasEmptyWindow() && fits();
        }

        boolean fits() {
            return spread() == allCosts();
        }

        boolean fitsWithCost(int t, int tried) {
            for (int j = 0; j < jobs; j++) {
                if (task[j] == t) {
                    cost[j] = tried;
                }
            }
            return fits();
        }

        void empty() {
            for (int k = 0; k < frames; k++) {
                slack[k] = room;
            }
            for (int j = 0; j < jobs; j++) {
                left[j] = cost[j];
                Arrays.fill(units[j], 0);
            }
        }

        /** As many UNITS as a FLOW can have are put; how many. */
        int spread() {
            empty();
            int sum = 0;
            for (int k = 0; k < frames; k++) {
                sum += spreadIn(k);
            }
            return sum;
        }

        /** WINDOWS are runs of FRAMES: whose ends first, goes first, and nothing is lost by that. */
        private int spreadIn(int k) {
            int sum = 0;
            for (int n = 0; n < jobs && slack[k] > 0; n++) {
                int j = mostUrgent(k);
                if (j < 0) {
                    return sum;
                }
                int amount = Math.min(left[j], slack[k]);
                put(j, k, amount);
                sum += amount;
            }
            return sum;
        }

        private int mostUrgent(int k) {
            int best = NONE;
            for (int j = 0; j < jobs; j++) {
                if (left[j] > 0 && first[j] <= k && k <= last[j] && (best < 0 || last[j] < last[best])) {
                    best = j;
                }
            }
            return best;
        }

        void put(int j, int k, int amount) {
            units[j][k] += amount;
            left[j] -= amount;
            slack[k] -= amount;
        }

        /**
         * The CUT of what was spread, FRAMES as bits: those that UNITS left over could come to, by
         * moving others out of the way. No other set of the greatest OVER lacks one of them.
         */
        int cut() {
            int reachedJobs = 0;
            for (int j = 0; j < jobs; j++) {
                if (left[j] > 0) {
                    reachedJobs |= 1 << j;
                }
            }
            int reachedFrames = 0;
            // Each turn but the last reaches a JOB more.
            for (int n = 0; n <= jobs; n++) {
                int before = reachedFrames;
                reachedFrames = windowsOf(reachedJobs);
                if (reachedFrames == before) {
                    return reachedFrames;
                }
                reachedJobs |= holdersOf(reachedFrames);
            }
            return reachedFrames;
        }

        private int window(int j) {
            return isEmpty(j) ? 0 : (1 << (last[j] + 1)) - (1 << first[j]);
        }

        private int windowsOf(int jobBits) {
            int bits = 0;
            for (int j = 0; j < jobs; j++) {
                if ((jobBits >> j & 1) == 1) {
                    bits |= window(j);
                }
            }
            return bits;
        }

        private int holdersOf(int frameBits) {
            int bits = 0;
            for (int j = 0; j < jobs; j++) {
                for (int k = first[j]; k <= last[j]; k++) {
                    if ((frameBits >> k & 1) == 1 && units[j][k] > 0) {
                        bits |= 1 << j;
                    }
                }
            }
            return bits;
        }

        int jobsWithin(int frameBits) {
            int bits = 0;
            for (int j = 0; j < jobs; j++) {
                if ((window(j) & ~frameBits) == 0) {
                    bits |= 1 << j;
                }
            }
            return bits;
        }
    }

    private static final class Table {
        final Flow flow;
        boolean isMade;
        int pieces;
        int swaps;

        Table() {
            flow = new Flow();
        }

        void make(Mode mode, int g) {
            flow.lay(mode, g, mode.reserve);
            isMade = flow.isGoodIn(mode);
            pieces = 0;
            swaps = 0;
            if (isMade) {
                fill();
                tidy();
                pieces = countPieces();
            }
        }

        private void fill() {
            flow.empty();
            for (int j = 0; j < flow.jobs; j++) {
                for (int k = flow.first[j]; k <= flow.last[j]; k++) {
                    flow.put(j, k, mostIn(j, k));
                }
            }
        }

        /**
         * The rest FITS as long as no run of FRAMES gets less than what later JOBS need of it alone.
         * Runs to the end of the WINDOW can't: what they lose by this JOB it doesn't ask of them
         * again. Runs that begin ahead of its WINDOW needn't be looked at: later JOBS have no
         * FRAMES there.
         */
        private int mostIn(int j, int k) {
            int most = Math.min(flow.left[j], flow.slack[k]);
            for (int a = flow.first[j]; a <= k && most > 0; a++) {
                most = Math.min(most, leastLeft(j, a, k));
            }
            return Math.max(0, most);
        }

        /** The least that any run from FRAME a to k or farther has beyond what later JOBS need of it. */
        private int leastLeft(int j, int a, int k) {
            int least = PLENTY;
            int sum = 0;
            for (int b = a; b < flow.last[j]; b++) {
                sum += flow.slack[b] - costsOfLater(j, a, b);
                if (b >= k) {
                    least = Math.min(least, sum);
                }
            }
            return least;
        }

        private int costsOfLater(int j, int a, int b) {
            int sum = 0;
            for (int i = j + 1; i < flow.jobs; i++) {
                if (flow.first[i] >= a && flow.last[i] == b) {
                    sum += flow.cost[i];
                }
            }
            return sum;
        }

        private void tidy() {
            // Each time there is a PIECE less.
            for (int n = 0; n < JOB_ROOM * FRAME_ROOM; n++) {
                if (!tidyOnce()) {
                    return;
                }
                swaps++;
            }
        }

        private boolean tidyOnce() {
            for (int j = 0; j < flow.jobs; j++) {
                for (int a = flow.first[j]; a <= flow.last[j]; a++) {
                    int amount = flow.units[j][a];
                    int b = amount > 0 ? otherFrameFor(j, a) : NONE;
                    if (b >= 0) {
                        flow.put(j, a, -amount);
                        flow.put(j, b, amount);
                        return true;
                    }
                }
            }
            return false;
        }

        private int otherFrameFor(int j, int a) {
            for (int b = flow.first[j]; b <= flow.last[j]; b++) {
                if (b != a && flow.units[j][b] > 0 && flow.slack[b] >= flow.units[j][a]) {
                    return b;
                }
            }
            return NONE;
        }

        private int countPieces() {
            int sum = 0;
            for (int j = 0; j < flow.jobs; j++) {
                for (int k = flow.first[j]; k <= flow.last[j]; k++) {
                    if (flow.units[j][k] > 0) {
                        sum++;
                    }
                }
            }
            return sum;
        }

        int pieceStart(int j, int k) {
            int time = k * flow.length;
            for (int i = 0; i < flow.jobs; i++) {
                if (flow.due[i] < flow.due[j] || flow.due[i] == flow.due[j] && i < j) {
                    time += flow.units[i][k];
                }
            }
            return time;
        }

        private int lastFrame(int j) {
            for (int k = flow.last[j]; k >= flow.first[j]; k--) {
                if (flow.units[j][k] > 0) {
                    return k;
                }
            }
            return NONE;
        }

        int lastEnd(int j) {
            int k = lastFrame(j);
            return k < 0 ? NOTHING : pieceStart(j, k) + flow.units[j][k];
        }

        int openJobs(int k) {
            int bits = 0;
            for (int j = 0; j < flow.jobs; j++) {
                if (flow.release[j] < k * flow.length && lastFrame(j) >= k) {
                    bits |= 1 << j;
                }
            }
            return bits;
        }

        /** The i-th FRAME without a PIECE; NONE if there is none such, or no TABLE. */
        int emptyFrame(int i) {
            int ahead = i;
            for (int k = 0; isMade && k < flow.frames; k++) {
                if (flow.slack[k] == flow.room) {
                    if (ahead == 0) {
                        return k;
                    }
                    ahead--;
                }
            }
            return NONE;
        }
    }

    private static final class Clock {
        int now;
        int mode;
        int frame;
        int waiting;
        int done;
        int overran;
        int cutOff;
        int nextMode;
        int nextTime;
        int leastLeft;
        final int[] need;
        final int[] due;

        Clock() {
            need = new int[WAITING_ROOM];
            due = new int[WAITING_ROOM];
            nextMode = NOTHING;
            nextTime = NOTHING;
            leastLeft = NOTHING;
        }

        void begin() {
            now = 0;
            mode = 0;
            frame = 0;
            waiting = 0;
            done = 0;
            overran = 0;
            cutOff = 0;
            nextMode = NOTHING;
            nextTime = NOTHING;
            leastLeft = NOTHING;
        }

        void become(Clock other) {
            now = other.now;
            mode = other.mode;
            frame = other.frame;
            waiting = other.waiting;
            done = other.done;
            overran = other.overran;
            cutOff = other.cutOff;
            nextMode = other.nextMode;
            nextTime = other.nextTime;
            leastLeft = other.leastLeft;
            System.arraycopy(other.need, 0, need, 0, WAITING_ROOM);
            System.arraycopy(other.due, 0, due, 0, WAITING_ROOM);
        }

        int tell(int what) {
            switch (what) {
                case 0:
                    return now;
                case 1:
                    return mode;
                case 2:
                    return frame;
                case 3:
                    return waiting;
                case 4:
                    return done;
                case 5:
                    return overran;
                case 6:
                    return cutOff;
                case 7:
                    return nextMode;
                case 8:
                    return nextTime;
                default:
                    return leastLeft;
            }
        }

        boolean hasSwitch() {
            return nextMode >= 0;
        }

        int needsUpTo(int i) {
            int sum = 0;
            for (int n = 0; n <= i && n < waiting; n++) {
                sum += need[n];
            }
            return sum;
        }

        /** One more is WAITING; its place. */
        int add(int itsNeed, int itsDue) {
            if (waiting >= WAITING_ROOM) {
                return NONE;
            }
            int at = waiting;
            for (int n = waiting; n > 0 && due[n - 1] > itsDue; n--) {
                need[n] = need[n - 1];
                due[n] = due[n - 1];
                at = n - 1;
            }
            need[at] = itsNeed;
            due[at] = itsDue;
            waiting++;
            return at;
        }

        /** The FRAME ahead, of this length, is gone through with so much SLACK for those WAITING. */
        void advance(int slack, int length, int frames) {
            now += length;
            frame = frame + 1 < frames ? frame + 1 : 0;
            int left = slack;
            int ended = 0;
            for (int i = 0; i < waiting; i++) {
                int amount = Math.min(left, need[i]);
                need[i] -= amount;
                left -= amount;
                if (need[i] == 0) {
                    noteDone(due[i] - now);
                    ended++;
                }
            }
            removeFirst(ended);
            switchIfTime();
        }

        private void noteDone(int timeLeft) {
            done++;
            if (leastLeft == NOTHING || timeLeft < leastLeft) {
                leastLeft = timeLeft;
            }
        }

        /** They are served in order, so those DONE are the first. */
        private void removeFirst(int ended) {
            for (int i = ended; i < waiting; i++) {
                need[i - ended] = need[i];
                due[i - ended] = due[i];
            }
            waiting -= ended;
        }

        void switchIfTime() {
            if (hasSwitch() && nextTime == now) {
                mode = nextMode;
                frame = 0;
                nextMode = NOTHING;
                nextTime = NOTHING;
            }
        }
    }

    /** How much SLACK the FRAMES AHEAD have together, up to each time. */
    private static final class Supply {
        /** By time from NOW on, of FRAMES of the mode that THE CLOCK is in. */
        final int[] own;
        /** By time from the SWITCH on, of FRAMES of the other mode. */
        final int[] other;
        int switchAfter;

        Supply() {
            own = new int[FARTHEST_DUE + 1];
            other = new int[FARTHEST_DUE + 1];
        }

        static void sumUp(int[] sums, Flow flow, int from) {
            int sum = 0;
            int frame = from;
            int end = flow.length;
            for (int time = 0; time < sums.length; time++) {
                if (time == end) {
                    sum += flow.slack[frame];
                    frame = frame + 1 < flow.frames ? frame + 1 : 0;
                    end += flow.length;
                }
                sums[time] = sum;
            }
        }

        /** The SLACKS of FRAMES AHEAD that end no later than so long behind NOW. */
        int upTo(int later) {
            int time = Math.max(0, Math.min(later, FARTHEST_DUE));
            if (time <= switchAfter) {
                return own[time];
            }
            int before = Math.max(0, switchAfter);
            return own[before] + other[time - before];
        }

        /** The least that is left for any WAITING beyond what it needs and all ahead of it. */
        int margin(Clock clock) {
            return leastMargin(clock, 0);
        }

        private int leastMargin(Clock clock, int dueFrom) {
            int least = PLENTY;
            int needs = 0;
            for (int i = 0; i < clock.waiting; i++) {
                needs += clock.need[i];
                if (clock.due[i] >= dueFrom) {
                    least = Math.min(least, upTo(clock.due[i] - clock.now) - needs);
                }
            }
            return least;
        }

        /** The NEED that one more could have at most; those with lesser DUES are IN TIME as ever. */
        int leftFor(Clock clock, int due) {
            int needs = 0;
            for (int i = 0; i < clock.waiting; i++) {
                if (clock.due[i] <= due) {
                    needs += clock.need[i];
                }
            }
            return Math.min(upTo(due - clock.now) - needs, leastMargin(clock, due));
        }
    }

    private static final class Timer {
        static double tick(int hz) {
            return 1000.0 / (double) Math.max(1, hz);
        }

        /** What % would tell, of x no less than 0 and y more than it; each step is exact. */
        static double leftOver(double x, double y) {
            double part = y;
            int doublings = 0;
            while (doublings < 64 && part + part <= x) {
                part = part + part;
                doublings++;
            }
            double rest = x;
            for (int i = 0; i <= doublings; i++) {
                if (rest >= part) {
                    rest = rest - part;
                }
                part = part / 2.0;
            }
            return rest;
        }

        /** The bits of a number that is 0 or more and, if more, not so small that it has no leading 1. */
        static long bits(double value, int fractionBits, int bias) {
            if (!(value > 0.0)) {
                return 0L;
            }
            double part = value;
            long exponent = (long) bias;
            for (int i = 0; i < 1100 && part >= 2.0; i++) {
                part = part / 2.0;
                exponent++;
            }
            for (int i = 0; i < 1100 && part < 1.0; i++) {
                part = part * 2.0;
                exponent--;
            }
            double fraction = (part - 1.0) * (double) (1L << fractionBits);
            return (exponent << fractionBits) + (long) fraction;
        }
    }
}
