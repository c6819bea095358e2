import java.util.ArrayList;
import java.util.List;
import java.util.NoSuchElementException;
import java.util.Random;

/**
 * Long runs of calls, drawn by fixed seeds, with the Model's answers as those that are due. They go
 * beyond the 512 calls that are promised for an object: nothing in the class counts calls.
 */
public final class ModelTest {
    private static final int[] ROUNDS = {1, 3, 4, 6, 8, 12, 16, 20, 24, 30, 32, 36, 40, 42, 48, 54, 60, 64, 70, 72,
        80, 84, 90, 96};

    private final Check check;
    private final Random random;
    private final String seed;
    private FrameRound x = new FrameRound();
    private Model y = new Model();
    private int now = 0;

    private ModelTest(Check check, int seed) {
        this.check = check;
        this.seed = "seed " + seed + " ";
        random = new Random(seed);
    }

    public static void main(String[] args) {
        int runs = args.length > 0 ? Integer.parseInt(args[0]) : 400;
        int from = args.length > 1 ? Integer.parseInt(args[1]) : 0;
        Check check = new Check("ModelTest");
        for (int s = from; s < from + runs; s++) {
            new ModelTest(check, s).go();
        }
        check.end();
    }

    private void go() {
        if (random.nextInt(5) == 0) {
            anyCalls(20);
        }
        int plans = 1 + random.nextInt(3);
        for (int p = 0; p < plans; p++) {
            tell(random.nextInt(6) == 0 ? spoiled(text()) : text());
            anyCalls(30 + random.nextInt(100));
        }
    }

    private int pick(int n) {
        return random.nextInt(n);
    }

    private String text() {
        StringBuilder s = new StringBuilder();
        int modes = pick(20) == 0 ? 4 : 1 + pick(3);
        for (int m = 0; m < modes; m++) {
            s.append(m == 0 ? "" : ";");
            String mode = modeText();
            // Most modes have a TABLE.
            for (int n = 0; n < 40 && pick(60) != 0 && !hasTable(mode); n++) {
                mode = modeText();
            }
            s.append(mode);
        }
        return s.toString();
    }

    private static boolean hasTable(String mode) {
        Model model = new Model();
        StringBuilder s = new StringBuilder(mode);
        while (s.length() % 20 != 0) {
            s.append(' ');
        }
        for (int i = 0; i < s.length(); i += 20) {
            model.feed(Check.number(s, i), Check.number(s, i + 4), Check.number(s, i + 8),
                Check.number(s, i + 12), Check.number(s, i + 16));
        }
        return model.plan(mode.length()) == 1 && model.hasTable(0) == 1;
    }

    private String modeText() {
        StringBuilder s = new StringBuilder();
        int round = ROUNDS[pick(ROUNDS.length)];
        List<Integer> lengths = divisors(round, 4, 60);
        int frame = lengths.isEmpty() || pick(8) == 0 ? 4 + pick(57)
            : lengths.get(pick(pick(3) == 0 ? lengths.size() : Math.min(lengths.size(), 3)));
        int reserve = pick(4) == 0 ? pick(frame) : pick(1 + frame / 4);
        s.append("mode frame ").append(frame).append(" reserve ").append(reserve);
        List<Integer> periods = divisors(round, 1, 60);
        int tasks = pick(8) == 0 ? pick(8) : 1 + pick(6);
        double load = (0.4 + random.nextDouble() * (pick(2) == 0 ? 0.4 : 0.9)) * (frame - reserve) / frame;
        for (int t = 0; t < tasks; t++) {
            int period = periods.get(periods.size() - 1 - pick(Math.min(periods.size(), pick(3) == 0 ? 4 : 2)));
            int phase = pick(2) == 0 ? 0 : pick(period);
            int span = 1 + pick(period - phase);
            // Most WINDOWS have some FRAMES.
            for (int n = 0; n < 20 && pick(15) != 0 && !hasWindow(phase, span, frame); n++) {
                phase = pick(2) == 0 ? 0 : pick(period);
                span = pick(3) == 0 ? period - phase : 1 + pick(period - phase);
            }
            int cost = 1 + (int) (random.nextDouble() * 2 * period * load / Math.max(1, tasks));
            if (pick(100) == 0) {
                period = 1 + pick(61);
            }
            s.append(Check.task(phase, period, Math.min(cost, pick(50) == 0 ? 61 : 60), span));
        }
        return s.toString();
    }

    private static boolean hasWindow(int phase, int span, int frame) {
        return (phase + frame - 1) / frame < (phase + span) / frame;
    }

    private static List<Integer> divisors(int n, int least, int greatest) {
        List<Integer> list = new ArrayList<>();
        for (int d = least; d <= greatest; d++) {
            if (n % d == 0) {
                list.add(d);
            }
        }
        return list;
    }

    private String spoiled(String text) {
        StringBuilder s = new StringBuilder(text);
        int times = 1 + pick(2);
        for (int i = 0; i < times; i++) {
            int at = pick(s.length());
            switch (pick(5)) {
                case 0 -> s.deleteCharAt(at);
                case 1 -> s.insert(at, (char) ('0' + pick(10)));
                case 2 -> s.setCharAt(at, " ;az09AZ{`:/\0\u00ff".charAt(pick(14)));
                case 3 -> s.setLength(at);
                default -> s.insert(at, " ;0a".charAt(pick(4)));
            }
            if (s.length() == 0) {
                s.append(' ');
            }
        }
        return s.toString();
    }

    private void tell(String text) {
        StringBuilder s = new StringBuilder();
        for (int i = 0; i < text.length(); i++) {
            boolean blank = text.charAt(i) == ' ';
            boolean needed = i + 1 < text.length() && i > 0 && Character.isLetter(text.charAt(i - 1))
                && Character.isLetter(text.charAt(i + 1));
            int many = !blank ? 1 : pick(6) == 0 && (!needed || pick(100) == 0) ? 0 : pick(10) == 0 ? 2 : 1;
            for (int n = 0; n < many; n++) {
                s.append(text.charAt(i));
            }
        }
        int length = s.length();
        while (s.length() % 20 != 0) {
            s.append((char) pick(256));
        }
        for (int i = 0; i < s.length(); i += 20) {
            feed(s, i);
        }
        if (pick(10) == 0) {
            length += pick(3) - 1;
        }
        same("plan(" + length + ")", x.plan(length), y.plan(length));
    }

    private void feed(CharSequence s, int i) {
        int a = Check.number(s, i);
        int b = Check.number(s, i + 4);
        int c = Check.number(s, i + 8);
        int d = Check.number(s, i + 12);
        int e = Check.number(s, i + 16);
        same("feed", x.feed(a, b, c, d, e), y.feed(a, b, c, d, e));
    }

    private void same(String what, long got, long want) {
        check.due(seed + what, got, want);
        check.due(seed + what + " trouble", x.trouble(), y.trouble());
        check.due(seed + what + " fault", x.fault(), y.fault());
        check.due(seed + what + " where", x.where(), y.where());
    }

    /** Mostly within 0 .. n less 1. */
    private int about(int n) {
        return pick(12) == 0 ? pick(n + 4) - 2 : pick(100) == 0 ? random.nextInt() : pick(Math.max(1, n));
    }

    private int aMode() {
        return pick(15) == 0 ? pick(7) - 2 : pick(Math.max(1, y.size(0)));
    }

    private int aLength(int m) {
        int round = Math.max(1, y.mode(m, 3));
        x.mode(m, 3);
        List<Integer> lengths = divisors(round, 4, 96);
        return lengths.isEmpty() || pick(3) == 0 ? 2 + pick(97) : lengths.get(pick(lengths.size()));
    }

    private void anyCalls(int n) {
        for (int i = 0; i < n; i++) {
            now = Math.max(0, y.clock(0));
            x.clock(0);
            if (pick(2) == 0) {
                clockCall();
            } else {
                otherCall();
            }
        }
    }

    private void clockCall() {
        int a = 1 + pick(pick(4) == 0 ? 400 : 20);
        int due = now + 1 + pick(pick(3) == 0 ? 400 : 80);
        if (pick(20) == 0) {
            a = pick(2) == 0 ? 401 : random.nextInt(3) - 1;
        }
        if (pick(20) == 0) {
            due = pick(2) == 0 ? now : now + 401;
        }
        if (pick(100) == 0) {
            due = random.nextInt();
        }
        int b = about(10);
        int m = aMode();
        switch (pick(20)) {
            case 0 -> same("clock " + b, x.clock(b), y.clock(b));
            case 1, 2 -> ahead();
            case 3, 4 -> waiting();
            case 5 -> same("canTake " + a + " " + due, x.canTake(a, due), y.canTake(a, due));
            case 6, 7, 8, 9 -> same("take " + a + " " + due, x.take(a, due), y.take(a, due));
            case 10 -> same("soonest " + a, x.soonest(a), y.soonest(a));
            case 11 -> same("greatest " + due, x.greatest(due), y.greatest(due));
            case 12 -> same("spare", x.spare(), y.spare());
            case 13, 14 -> step();
            case 15 -> run();
            case 16 -> same("safeEnd " + m, x.safeEnd(m), y.safeEnd(m));
            case 17 -> same("change " + m, x.change(m), y.change(m));
            case 18 -> same("keep", x.keep() ? 1 : 0, y.keep() ? 1 : 0);
            default -> same("back", x.back() ? 1 : 0, y.back() ? 1 : 0);
        }
        for (int what = 0; what < 10; what++) {
            check.due(seed + "then clock " + what, x.clock(what), y.clock(what));
        }
    }

    private void ahead() {
        int n = about(100);
        int what = about(4);
        same("ahead " + n + " " + what, x.ahead(n, what), y.ahead(n, what));
    }

    private void waiting() {
        int i = about(5);
        int what = about(3);
        same("waiting " + i + " " + what, x.waiting(i, what), y.waiting(i, what));
    }

    private void step() {
        int overrun = pick(2) == 0 ? about(100) : about(8);
        same("step " + overrun, x.step(overrun), y.step(overrun));
    }

    private void run() {
        int n = pick(3) == 0 ? about(102) : 1 + pick(4);
        same("run " + n, x.run(n), y.run(n));
    }

    private void otherCall() {
        int m = aMode();
        switch (pick(8)) {
            case 0 -> modeCall(m);
            case 1, 2 -> lengthCall(m);
            case 3, 4 -> tableCall(m);
            case 5 -> changeCall(m);
            case 6 -> timerCall(m);
            default -> toldCall();
        }
    }

    private void modeCall(int m) {
        int t = about(6);
        int j = about(24);
        int what = about(7);
        switch (pick(4)) {
            case 0 -> same("mode " + m + " " + what, x.mode(m, what), y.mode(m, what));
            case 1 -> same("task " + m + " " + t + " " + what, x.task(m, t, what), y.task(m, t, what));
            case 2 -> same("job " + m + " " + j + " " + what, x.job(m, j, what), y.job(m, j, what));
            default -> same("load " + m, x.load(m), y.load(m));
        }
    }

    private void lengthCall(int m) {
        int g = aLength(m);
        int i = about(4);
        String at = " " + m + " " + g;
        switch (pick(11)) {
            case 0 -> same("judge" + at, x.judge(m, g), y.judge(m, g));
            case 1 -> same("most" + at, x.most(m, g), y.most(m, g));
            case 2 -> same("over" + at, x.over(m, g), y.over(m, g));
            case 3 -> same("cutFrames" + at, x.cutFrames(m, g), y.cutFrames(m, g));
            case 4 -> same("cutJobs" + at, x.cutJobs(m, g), y.cutJobs(m, g));
            case 5 -> same("goods " + m, x.goods(m), y.goods(m));
            case 6 -> same("good " + m + " " + i, x.good(m, i), y.good(m, i));
            case 7 -> same("piecesBy" + at, x.piecesBy(m, g), y.piecesBy(m, g));
            case 8 -> same("fewestBy " + m, x.fewestBy(m), y.fewestBy(m));
            case 9 -> same("headroom " + m + " " + i, x.headroom(m, i), y.headroom(m, i));
            default -> same("reserveUpTo " + m, x.reserveUpTo(m), y.reserveUpTo(m));
        }
    }

    private void tableCall(int m) {
        int j = about(Math.max(1, y.mode(m, 4)));
        x.mode(m, 4);
        int k = about(Math.max(1, y.mode(m, 5)));
        x.mode(m, 5);
        String at = " " + m + " " + j + " " + k;
        switch (pick(8)) {
            case 0 -> same("hasTable " + m, x.hasTable(m), y.hasTable(m));
            case 1 -> same("pieces " + m, x.pieces(m), y.pieces(m));
            case 2 -> same("swaps " + m, x.swaps(m), y.swaps(m));
            case 3 -> wholeTable(m);
            case 4 -> same("begins" + at, x.begins(m, j, k), y.begins(m, j, k));
            case 5 -> same("finishes " + m + " " + j, x.finishes(m, j), y.finishes(m, j));
            case 6 -> same("slack " + m + " " + k, x.slack(m, k), y.slack(m, k));
            default -> same("openAt " + m + " " + k, x.openAt(m, k), y.openAt(m, k));
        }
    }

    private void wholeTable(int m) {
        for (int j = 0; j <= Math.max(0, y.mode(m, 4)); j++) {
            for (int k = 0; k <= Math.max(0, y.mode(m, 5)); k++) {
                same("share " + m + " " + j + " " + k, x.share(m, j, k), y.share(m, j, k));
                x.mode(m, 5);
            }
            x.mode(m, 4);
        }
    }

    private void changeCall(int m) {
        int t = about(5);
        if (pick(4) != 0) {
            return;
        }
        switch (pick(3)) {
            case 0 -> {
                int cost = pick(10) == 0 ? pick(63) : 1 + pick(8);
                same("recost " + m + " " + t + " " + cost, x.recost(m, t, cost), y.recost(m, t, cost));
            }
            case 1 -> {
                int frame = aLength(m);
                same("reframe " + m + " " + frame, x.reframe(m, frame), y.reframe(m, frame));
            }
            default -> {
                int reserve = pick(10) == 0 ? about(62) : pick(6);
                same("reserve " + m + " " + reserve, x.reserve(m, reserve), y.reserve(m, reserve));
            }
        }
    }

    private void timerCall(int m) {
        int n = about(pick(2) == 0 ? 100001 : 50);
        int hz = 1 + about(pick(2) == 0 ? 100000 : 2000);
        String at = " " + m + " " + n + " " + hz;
        if (pick(2) == 0) {
            same("ticks" + at, x.ticks(m, n, hz), y.ticks(m, n, hz));
        } else {
            same("astray" + at, x.astray(m, n, hz), y.astray(m, n, hz));
        }
    }

    private void toldCall() {
        int i = about(5);
        if (pick(2) == 0) {
            same("size " + i, x.size(i), y.size(i));
            return;
        }
        long got = -9;
        long want = -9;
        try {
            got = x.idle(i);
        } catch (NoSuchElementException e) {
            got = -8;
        }
        try {
            want = y.idle(i);
        } catch (NoSuchElementException e) {
            want = -8;
        }
        same("idle " + i, got, want);
    }
}
