import java.util.ArrayList;
import java.util.Arrays;
import java.util.Comparator;
import java.util.List;
import java.util.NoSuchElementException;

/**
 * The document once more, in the slowest and most literal form that could be thought of: sets are
 * tried one by one, flows are looked for path by path, amounts are tried from the greatest down.
 */
final class Model {
    static final class Task {
        int phase, period, cost, span;
    }

    static final class Mode {
        int frame, reserve;
        List<Task> tasks = new ArrayList<>();

        int round() {
            if (tasks.isEmpty()) {
                return frame;
            }
            int r = 1;
            while (true) {
                boolean all = true;
                for (Task t : tasks) {
                    all &= r % t.period == 0;
                }
                if (all) {
                    return r;
                }
                r++;
            }
        }

        List<Job> jobs() {
            List<Job> jobs = new ArrayList<>();
            for (int t = 0; t < tasks.size(); t++) {
                Task k = tasks.get(t);
                for (int n = 0; n < round() / k.period; n++) {
                    jobs.add(new Job(t, k.phase + n * k.period, k.phase + n * k.period + k.span, k.cost));
                }
            }
            jobs.sort(Comparator.comparingInt((Job j) -> j.release).thenComparingInt(j -> j.task));
            return jobs;
        }
    }

    static final class Job {
        final int task, release, due;
        int cost;

        Job(int task, int release, int due, int cost) {
            this.task = task;
            this.release = release;
            this.due = due;
            this.cost = cost;
        }

        List<Integer> window(int g, int frames) {
            List<Integer> in = new ArrayList<>();
            for (int k = 0; k < frames; k++) {
                if (k * g >= release && (k + 1) * g <= due) {
                    in.add(k);
                }
            }
            return in;
        }
    }

    static final class Table {
        int g, frames, room, swaps;
        List<Job> jobs;
        int[][] units;

        int slack(int k) {
            int s = room;
            for (int[] u : units) {
                s -= u[k];
            }
            return s;
        }

        int pieces() {
            int n = 0;
            for (int[] row : units) {
                for (int u : row) {
                    n += u > 0 ? 1 : 0;
                }
            }
            return n;
        }

        List<Integer> order(int k) {
            List<Integer> o = new ArrayList<>();
            for (int j = 0; j < jobs.size(); j++) {
                if (units[j][k] > 0) {
                    o.add(j);
                }
            }
            o.sort(Comparator.comparingInt((Integer j) -> jobs.get(j).due).thenComparingInt(j -> j));
            return o;
        }

        int begins(int j, int k) {
            int at = k * g;
            for (int i : order(k)) {
                if (i == j) {
                    return at;
                }
                at += units[i][k];
            }
            return -2;
        }

        int finishes(int j) {
            int end = -1;
            for (int k = 0; k < frames; k++) {
                if (units[j][k] > 0) {
                    end = Math.max(end, begins(j, k) + units[j][k]);
                }
            }
            return end;
        }

        int openAt(int k) {
            int bits = 0;
            for (int j = 0; j < jobs.size(); j++) {
                boolean later = false;
                for (int f = k; f < frames; f++) {
                    later |= units[j][f] > 0;
                }
                if (jobs.get(j).release < k * g && later) {
                    bits |= 1 << j;
                }
            }
            return bits;
        }
    }

    static final class Sporadic {
        int need, due;

        Sporadic(int need, int due) {
            this.need = need;
            this.due = due;
        }
    }

    static final class Ahead {
        int begin, end, mode, frame, slack;
    }

    static final class Clock {
        int now, mode, frame, done, got, cut, nextMode = -2, nextTime = -2, least = -2;
        List<Sporadic> waiting = new ArrayList<>();

        Clock copy() {
            Clock c = new Clock();
            c.now = now;
            c.mode = mode;
            c.frame = frame;
            c.done = done;
            c.got = got;
            c.cut = cut;
            c.nextMode = nextMode;
            c.nextTime = nextTime;
            c.least = least;
            for (Sporadic s : waiting) {
                c.waiting.add(new Sporadic(s.need, s.due));
            }
            return c;
        }
    }

    private final StringBuilder tape = new StringBuilder();
    private List<Mode> modes = new ArrayList<>();
    private List<Table> tables = new ArrayList<>();
    private Clock clock = new Clock();
    private Clock kept;
    private int trouble, fault, place;

    private int no(int number) {
        trouble = number;
        return -1;
    }

    private int yes(int value) {
        trouble = 0;
        return value;
    }

    // ---- the plan

    int feed(int a, int b, int c, int d, int e) {
        if (tape.length() + 20 > 700) {
            return -1;
        }
        for (int x : new int[] {a, b, c, d, e}) {
            for (int i = 3; i >= 0; i--) {
                tape.append((char) (x >> 8 * i & 255));
            }
        }
        return tape.length();
    }

    int plan(int n) {
        if (n < 0 || n > tape.length()) {
            return no(2);
        }
        String text = tape.substring(0, n);
        tape.setLength(0);
        fault = 0;
        List<Mode> read = parse(text);
        if (read == null) {
            return no(4);
        }
        modes = read;
        anew();
        return yes(modes.size());
    }

    private void anew() {
        tables = new ArrayList<>();
        for (Mode m : modes) {
            tables.add(table(m, m.frame));
        }
        clock = new Clock();
        kept = null;
    }

    private static final String[][] LINES = {
        {"mode", "frame", "#", "reserve", "#"},
        {"task", "phase", "#", "every", "#", "costs", "#", "within", "#"},
    };

    private List<Mode> failed(int number, int at) {
        fault = number;
        place = at;
        return null;
    }

    private List<Mode> parse(String text) {
        List<Mode> read = new ArrayList<>();
        int at = 0;
        String[] line = null;
        int part = 0;
        Task task = null;
        Mode mode = null;
        while (true) {
            while (at < text.length() && text.charAt(at) == ' ') {
                at++;
            }
            boolean end = at == text.length();
            String token = end ? "" : token(text, at);
            if (!end && token.isEmpty()) {
                return failed(1, at);
            }
            boolean whole = !end && Character.isDigit(token.charAt(0));
            if (line == null) {
                if (token.equals("mode") || token.equals("task")) {
                    line = LINES[token.equals("mode") ? 0 : 1];
                } else {
                    return failed(1, at);
                }
                if (line == LINES[0] && read.size() == 3) {
                    return failed(3, at);
                }
                if (line == LINES[1] && read.isEmpty()) {
                    return failed(4, at);
                }
                if (line == LINES[1] && read.get(read.size() - 1).tasks.size() == 6) {
                    return failed(3, at);
                }
                part = 1;
                mode = line == LINES[0] ? new Mode() : read.get(read.size() - 1);
                task = new Task();
            } else if (part == line.length) {
                if (line == LINES[0]) {
                    if (!read.contains(mode)) {
                        read.add(mode);
                    }
                }
                if (end) {
                    return read;
                }
                if (!token.equals(";")) {
                    return failed(1, at);
                }
                line = null;
            } else if (line[part].equals("#")) {
                if (!whole) {
                    return failed(1, at);
                }
                int v = Integer.parseInt(token);
                int bad = line == LINES[0] ? modePart(mode, part, v) : taskPart(mode, task, part, v);
                if (bad != 0) {
                    return failed(bad, at);
                }
                part++;
            } else {
                if (!token.equals(line[part])) {
                    return failed(1, at);
                }
                part++;
            }
            at += token.length();
        }
    }

    private static int modePart(Mode mode, int part, int v) {
        if (part == 2) {
            mode.frame = v;
            return v < 4 || v > 60 ? 2 : 0;
        }
        mode.reserve = v;
        return v > 59 || v >= mode.frame ? 2 : 0;
    }

    private static int taskPart(Mode mode, Task task, int part, int v) {
        if (part == 2) {
            task.phase = v;
            return v > 59 ? 2 : 0;
        }
        if (part == 4) {
            task.period = v;
            if (v < 1 || v > 60 || v < task.phase + 1) {
                return 2;
            }
            mode.tasks.add(task);
            if (mode.round() > 96) {
                return 5;
            }
            return mode.jobs().size() > 24 ? 6 : 0;
        }
        if (part == 6) {
            task.cost = v;
            return v < 1 || v > 60 ? 2 : 0;
        }
        task.span = v;
        return v < 1 || v > 60 || task.phase + v > task.period ? 2 : 0;
    }

    private static String token(String text, int at) {
        int end = at;
        if (text.charAt(at) == ';') {
            return ";";
        }
        while (end < text.length() && text.charAt(end) >= 'a' && text.charAt(end) <= 'z') {
            end++;
        }
        if (end > at) {
            return end - at <= 7 ? text.substring(at, end) : "";
        }
        while (end < text.length() && text.charAt(end) >= '0' && text.charAt(end) <= '9') {
            end++;
        }
        return end - at <= 3 ? text.substring(at, end) : "";
    }

    int fault() {
        return fault;
    }

    int where() {
        return trouble == 4 ? place : -1;
    }

    // ---- modes, tasks, jobs

    private boolean noMode(int m) {
        return m < 0 || m >= modes.size();
    }

    private static int frames(Mode m, int g) {
        return m.round() / g;
    }

    int mode(int m, int what) {
        if (noMode(m) || what < 0 || what > 6) {
            return no(1);
        }
        Mode o = modes.get(m);
        int all = 0;
        for (Job j : o.jobs()) {
            all += j.cost;
        }
        return yes(new int[] {o.frame, o.reserve, o.tasks.size(), o.round(), o.jobs().size(),
            frames(o, o.frame), all}[what]);
    }

    private static int gcd(int a, int b) {
        for (int d = Math.min(a, b); true; d--) {
            if (a % d == 0 && b % d == 0) {
                return d;
            }
        }
    }

    private static int reach(Task t, int g) {
        int d = gcd(g, t.period);
        int over = t.phase % d;
        return 2 * g - (over == 0 ? d : over);
    }

    int task(int m, int t, int what) {
        if (noMode(m) || t < 0 || t >= modes.get(m).tasks.size() || what < 0 || what > 5) {
            return no(1);
        }
        Mode o = modes.get(m);
        Task k = o.tasks.get(t);
        return yes(new int[] {k.phase, k.period, k.cost, k.span, o.round() / k.period,
            reach(k, o.frame)}[what]);
    }

    int job(int m, int j, int what) {
        if (noMode(m) || j < 0 || j >= modes.get(m).jobs().size() || what < 0 || what > 5) {
            return no(1);
        }
        Mode o = modes.get(m);
        Job k = o.jobs().get(j);
        List<Integer> w = k.window(o.frame, frames(o, o.frame));
        int first = w.isEmpty() ? -2 : w.get(0);
        int last = w.isEmpty() ? -2 : w.get(w.size() - 1);
        return yes(new int[] {k.task, k.release, k.due, k.cost, first, last}[what]);
    }

    long load(int m) {
        if (noMode(m)) {
            return no(1);
        }
        trouble = 0;
        double sum = 0.0;
        for (Task t : modes.get(m).tasks) {
            sum += (double) t.cost / (double) t.period;
        }
        return Double.doubleToLongBits(sum);
    }

    // ---- lengths

    /** The most that can flow from JOBS (so much each) to FRAMES (so much each), path by path. */
    static int flow(int[] supply, boolean[][] may, int[] room) {
        int n = supply.length;
        int f = room.length;
        int[][] put = new int[n][f];
        int[] left = supply.clone();
        int[] free = room.clone();
        int sum = 0;
        for (int j = 0; j < n; j++) {
            while (left[j] > 0 && push(j, may, put, free, new boolean[n])) {
                left[j]--;
                sum++;
            }
        }
        return sum;
    }

    private static boolean push(int j, boolean[][] may, int[][] put, int[] free, boolean[] seen) {
        seen[j] = true;
        for (int k = 0; k < free.length; k++) {
            if (may[j][k] && free[k] > 0) {
                free[k]--;
                put[j][k]++;
                return true;
            }
        }
        for (int k = 0; k < free.length; k++) {
            for (int i = 0; may[j][k] && i < put.length; i++) {
                if (!seen[i] && put[i][k] > 0 && push(i, may, put, free, seen)) {
                    put[i][k]--;
                    put[j][k]++;
                    return true;
                }
            }
        }
        return false;
    }

    private static boolean[][] windows(List<Job> jobs, int g, int frames) {
        boolean[][] may = new boolean[jobs.size()][frames];
        for (int j = 0; j < jobs.size(); j++) {
            for (int k : jobs.get(j).window(g, frames)) {
                may[j][k] = true;
            }
        }
        return may;
    }

    private static int most(Mode o, List<Job> jobs, int g, int reserve) {
        int frames = frames(o, g);
        int[] room = new int[frames];
        Arrays.fill(room, Math.max(0, g - reserve));
        int[] supply = new int[jobs.size()];
        for (int j = 0; j < supply.length; j++) {
            supply[j] = jobs.get(j).cost;
        }
        return flow(supply, windows(jobs, g, frames), room);
    }

    private static int all(List<Job> jobs) {
        int sum = 0;
        for (Job j : jobs) {
            sum += j.cost;
        }
        return sum;
    }

    private static boolean fits(Mode o, List<Job> jobs, int g, int reserve) {
        return most(o, jobs, g, reserve) == all(jobs);
    }

    private static int judged(Mode o, int g) {
        int bits = o.round() % g != 0 ? 1 : 0;
        int room = Math.max(0, g - o.reserve);
        for (Task t : o.tasks) {
            bits |= t.cost > room ? 2 : 0;
            bits |= reach(t, g) > t.span ? 4 : 0;
        }
        for (Job j : o.jobs()) {
            bits |= j.window(g, frames(o, g)).isEmpty() ? 8 : 0;
        }
        return bits | (fits(o, o.jobs(), g, o.reserve) ? 0 : 16);
    }

    private static boolean isGood(Mode o, int g) {
        return (judged(o, g) & 25) == 0;
    }

    int judge(int m, int g) {
        if (noMode(m)) {
            return no(1);
        }
        if (g < 4 || g > 96) {
            return no(2);
        }
        return yes(judged(modes.get(m), g));
    }

    int most(int m, int g) {
        if (noMode(m)) {
            return no(1);
        }
        if (g < 4 || g > 96) {
            return no(2);
        }
        return yes(most(modes.get(m), modes.get(m).jobs(), g, modes.get(m).reserve));
    }

    private static int over(Mode o, int g, int set) {
        int sum = -Integer.bitCount(set) * Math.max(0, g - o.reserve);
        for (Job j : o.jobs()) {
            boolean in = true;
            for (int k : j.window(g, frames(o, g))) {
                in &= (set >> k & 1) == 1;
            }
            sum += in ? j.cost : 0;
        }
        return sum;
    }

    /** With few FRAMES each set is tried; with many, runs of FRAMES are put one behind the other. */
    private static int cut(Mode o, int g) {
        int frames = frames(o, g);
        if (frames <= 6) {
            int best = 0;
            for (int set = 1; set < 1 << frames; set++) {
                int a = over(o, g, set);
                int b = over(o, g, best);
                if (a > b || a == b && Integer.bitCount(set) < Integer.bitCount(best)) {
                    best = set;
                }
            }
            return best;
        }
        int best = bestRuns(o, g, frames, -1);
        int set = 0;
        for (int k = 0; k < frames; k++) {
            if (bestRuns(o, g, frames, k) < best) {
                set |= 1 << k;
            }
        }
        return set;
    }

    private static int bestRuns(Mode o, int g, int frames, int without) {
        int room = Math.max(0, g - o.reserve);
        List<Job> jobs = o.jobs();
        int[] first = new int[jobs.size()];
        int[] last = new int[jobs.size()];
        for (int j = 0; j < first.length; j++) {
            List<Integer> w = jobs.get(j).window(g, frames);
            first[j] = w.isEmpty() ? -1 : w.get(0);
            last[j] = w.isEmpty() ? -1 : w.get(w.size() - 1);
        }
        int[] best = new int[frames + 1];
        for (int i = 1; i <= frames; i++) {
            best[i] = best[i - 1];
            for (int a = 0; a < i; a++) {
                if (without >= a && without < i) {
                    continue;
                }
                int sum = -room * (i - a);
                for (int j = 0; j < first.length; j++) {
                    sum += first[j] >= a && last[j] < i ? jobs.get(j).cost : 0;
                }
                best[i] = Math.max(best[i], best[a] + sum);
            }
        }
        return best[frames];
    }

    int over(int m, int g) {
        if (noMode(m)) {
            return no(1);
        }
        if (g < 4 || g > 96) {
            return no(2);
        }
        return yes(over(modes.get(m), g, cut(modes.get(m), g)));
    }

    int cutFrames(int m, int g) {
        if (noMode(m)) {
            return no(1);
        }
        if (g < 4 || g > 96) {
            return no(2);
        }
        return yes(cut(modes.get(m), g));
    }

    int cutJobs(int m, int g) {
        if (noMode(m)) {
            return no(1);
        }
        if (g < 4 || g > 96) {
            return no(2);
        }
        Mode o = modes.get(m);
        int set = cut(o, g);
        int bits = 0;
        for (int j = 0; j < o.jobs().size(); j++) {
            boolean in = true;
            for (int k : o.jobs().get(j).window(g, frames(o, g))) {
                in &= (set >> k & 1) == 1;
            }
            bits |= in ? 1 << j : 0;
        }
        return yes(bits);
    }

    private List<Integer> goodOnes(int m) {
        List<Integer> good = new ArrayList<>();
        for (int g = 4; g <= 96; g++) {
            if (isGood(modes.get(m), g)) {
                good.add(g);
            }
        }
        return good;
    }

    int goods(int m) {
        return noMode(m) ? no(1) : yes(goodOnes(m).size());
    }

    int good(int m, int i) {
        if (noMode(m) || i < 0 || i >= goodOnes(m).size()) {
            return no(1);
        }
        return yes(goodOnes(m).get(i));
    }

    int piecesBy(int m, int g) {
        if (noMode(m)) {
            return no(1);
        }
        if (g < 4 || g > 96) {
            return no(2);
        }
        Table t = table(modes.get(m), g);
        return t == null ? no(5) : yes(t.pieces());
    }

    int fewestBy(int m) {
        if (noMode(m)) {
            return no(1);
        }
        int best = -2;
        int fewest = Integer.MAX_VALUE;
        for (int g : goodOnes(m)) {
            int p = table(modes.get(m), g).pieces();
            if (p <= fewest) {
                best = g;
                fewest = p;
            }
        }
        return yes(best);
    }

    int headroom(int m, int t) {
        if (noMode(m) || t < 0 || t >= modes.get(m).tasks.size()) {
            return no(1);
        }
        Mode o = modes.get(m);
        for (int c = 60; c >= 0; c--) {
            List<Job> jobs = o.jobs();
            for (Job j : jobs) {
                j.cost = j.task == t ? c : j.cost;
            }
            if (fits(o, jobs, o.frame, o.reserve)) {
                return yes(c);
            }
        }
        return yes(-2);
    }

    int reserveUpTo(int m) {
        if (noMode(m)) {
            return no(1);
        }
        Mode o = modes.get(m);
        for (int r = o.frame - 1; r >= 0; r--) {
            if (fits(o, o.jobs(), o.frame, r)) {
                return yes(r);
            }
        }
        return yes(-2);
    }

    // ---- tables

    static Table table(Mode o, int g) {
        if (!isGood(o, g)) {
            return null;
        }
        Table t = new Table();
        t.g = g;
        t.frames = frames(o, g);
        t.room = Math.max(0, g - o.reserve);
        t.jobs = o.jobs();
        int n = t.jobs.size();
        t.units = new int[n][t.frames];
        boolean[][] may = windows(t.jobs, g, t.frames);
        for (int j = 0; j < n; j++) {
            for (int k = 0; k < t.frames; k++) {
                if (may[j][k]) {
                    may[j][k] = false;
                    t.units[j][k] = greatestShare(t, may, j, k);
                }
            }
        }
        while (tidied(t)) {
            t.swaps++;
        }
        return t;
    }

    /** may: what isn't told yet. */
    private static int greatestShare(Table t, boolean[][] may, int j, int k) {
        for (int x = 60; x >= 0; x--) {
            t.units[j][k] = x;
            int[] room = new int[t.frames];
            boolean none = false;
            for (int f = 0; f < t.frames; f++) {
                room[f] = t.slack(f);
                none |= room[f] < 0;
            }
            int[] supply = new int[t.jobs.size()];
            int all = 0;
            for (int i = 0; i < supply.length; i++) {
                supply[i] = t.jobs.get(i).cost;
                for (int u : t.units[i]) {
                    supply[i] -= u;
                }
                none |= supply[i] < 0;
                all += supply[i];
            }
            if (!none && flow(supply, may, room) == all) {
                return x;
            }
        }
        throw new IllegalStateException("no flow");
    }

    private static boolean tidied(Table t) {
        for (int j = 0; j < t.jobs.size(); j++) {
            for (int a = 0; a < t.frames; a++) {
                for (int b = 0; b < t.frames; b++) {
                    if (a != b && t.units[j][a] > 0 && t.units[j][b] > 0 && t.slack(b) >= t.units[j][a]) {
                        t.units[j][b] += t.units[j][a];
                        t.units[j][a] = 0;
                        return true;
                    }
                }
            }
        }
        return false;
    }

    private boolean noFrame(int m, int k) {
        return noMode(m) || k < 0 || k >= frames(modes.get(m), modes.get(m).frame);
    }

    private boolean noJob(int m, int j) {
        return noMode(m) || j < 0 || j >= modes.get(m).jobs().size();
    }

    int hasTable(int m) {
        return noMode(m) ? no(1) : yes(tables.get(m) == null ? 0 : 1);
    }

    int pieces(int m) {
        return noMode(m) ? no(1) : tables.get(m) == null ? no(5) : yes(tables.get(m).pieces());
    }

    int swaps(int m) {
        return noMode(m) ? no(1) : tables.get(m) == null ? no(5) : yes(tables.get(m).swaps);
    }

    int share(int m, int j, int k) {
        return noJob(m, j) || noFrame(m, k) ? no(1) : tables.get(m) == null ? no(5)
            : yes(tables.get(m).units[j][k]);
    }

    int begins(int m, int j, int k) {
        return noJob(m, j) || noFrame(m, k) ? no(1) : tables.get(m) == null ? no(5)
            : yes(tables.get(m).begins(j, k));
    }

    int finishes(int m, int j) {
        return noJob(m, j) ? no(1) : tables.get(m) == null ? no(5) : yes(tables.get(m).finishes(j));
    }

    int slack(int m, int k) {
        return noFrame(m, k) ? no(1) : tables.get(m) == null ? no(5) : yes(tables.get(m).slack(k));
    }

    int openAt(int m, int k) {
        return noFrame(m, k) ? no(1) : tables.get(m) == null ? no(5) : yes(tables.get(m).openAt(k));
    }

    // ---- the clock

    private List<Ahead> frames(Clock c, int switchMode, int switchTime, int count) {
        List<Ahead> list = new ArrayList<>();
        int time = c.now;
        int mode = c.mode;
        int frame = c.frame;
        for (int n = 0; n < count; n++) {
            if (switchMode >= 0 && time == switchTime) {
                mode = switchMode;
                frame = 0;
            }
            Table t = tables.get(mode);
            Ahead a = new Ahead();
            a.begin = time;
            a.end = time + t.g;
            a.mode = mode;
            a.frame = frame;
            a.slack = t.slack(frame);
            list.add(a);
            time += t.g;
            frame = (frame + 1) % t.frames;
        }
        return list;
    }

    private static boolean inTime(List<Sporadic> waiting, List<Ahead> frames) {
        for (Sporadic s : waiting) {
            int slack = 0;
            for (Ahead a : frames) {
                slack += a.end <= s.due ? a.slack : 0;
            }
            int needs = 0;
            for (Sporadic o : waiting) {
                needs += o.due <= s.due ? o.need : 0;
            }
            if (slack < needs) {
                return false;
            }
        }
        return true;
    }

    private List<Ahead> frames() {
        return frames(clock, clock.nextMode, clock.nextTime, 110);
    }

    private boolean canBe(int need, int due, List<Ahead> frames) {
        List<Sporadic> with = new ArrayList<>(clock.waiting);
        with.add(new Sporadic(need, due));
        return inTime(with, frames);
    }

    int clock(int what) {
        if (modes.isEmpty() || what < 0 || what > 9) {
            return no(1);
        }
        Clock c = clock;
        return yes(new int[] {c.now, c.mode, c.frame, c.waiting.size(), c.done, c.got, c.cut, c.nextMode,
            c.nextTime, c.least}[what]);
    }

    private int clockless(boolean numbers) {
        if (modes.isEmpty()) {
            return 1;
        }
        if (tables.get(clock.mode) == null) {
            return 5;
        }
        return numbers ? 0 : 2;
    }

    int ahead(int n, int what) {
        if (modes.isEmpty() || what < 0 || what > 3) {
            return no(1);
        }
        int r = clockless(n >= 0 && n <= 99);
        if (r != 0) {
            return no(r);
        }
        Ahead a = frames().get(n);
        return yes(new int[] {a.begin, a.mode, a.frame, a.slack}[what]);
    }

    int waiting(int i, int what) {
        if (modes.isEmpty() || i < 0 || i >= clock.waiting.size() || what < 0 || what > 2) {
            return no(1);
        }
        Sporadic s = clock.waiting.get(i);
        if (what < 2) {
            return yes(what == 0 ? s.need : s.due);
        }
        Clock before = clock;
        clock = clock.copy();
        Sporadic copy = clock.waiting.get(i);
        while (copy.need > 0) {
            step0(0);
        }
        int end = clock.now;
        clock = before;
        return yes(end);
    }

    private boolean isNeed(int need) {
        return need >= 1 && need <= 400;
    }

    private boolean isDue(int due) {
        return due >= clock.now + 1 && due <= clock.now + 400;
    }

    int canTake(int need, int due) {
        int r = clockless(isNeed(need) && isDue(due));
        return r != 0 ? no(r) : yes(canBe(need, due, frames()) ? 1 : 0);
    }

    int take(int need, int due) {
        int r = clockless(isNeed(need) && isDue(due));
        if (r != 0) {
            return no(r);
        }
        if (clock.waiting.size() == 8) {
            return no(3);
        }
        if (!canBe(need, due, frames())) {
            return no(5);
        }
        Sporadic s = new Sporadic(need, due);
        clock.waiting.add(s);
        clock.waiting.sort(Comparator.comparingInt(o -> o.due));
        return yes(clock.waiting.indexOf(s));
    }

    int soonest(int need) {
        int r = clockless(isNeed(need));
        if (r != 0) {
            return no(r);
        }
        List<Ahead> frames = frames();
        for (int due = clock.now + 1; due <= clock.now + 400; due++) {
            if (canBe(need, due, frames)) {
                return yes(due);
            }
        }
        return yes(-2);
    }

    int greatest(int due) {
        int r = clockless(isDue(due));
        if (r != 0) {
            return no(r);
        }
        List<Ahead> frames = frames();
        for (int need = 400; need >= 1; need--) {
            if (canBe(need, due, frames)) {
                return yes(need);
            }
        }
        return yes(0);
    }

    private int spare0() {
        List<Ahead> frames = frames();
        int all = frames.get(0).slack;
        for (int less = all; less > 0; less--) {
            frames.get(0).slack = all - less;
            if (inTime(clock.waiting, frames)) {
                return less;
            }
        }
        return 0;
    }

    int spare() {
        int r = clockless(true);
        return r != 0 ? no(r) : yes(spare0());
    }

    private int step0(int overrun) {
        int got = Math.min(overrun, overrun == 0 ? 0 : spare0());
        Ahead a = frames(clock, clock.nextMode, clock.nextTime, 1).get(0);
        int left = a.slack - got;
        clock.got += got;
        clock.cut += overrun - got;
        List<Sporadic> still = new ArrayList<>();
        for (Sporadic s : clock.waiting) {
            int x = Math.min(left, s.need);
            s.need -= x;
            left -= x;
            if (s.need == 0) {
                clock.done++;
                int time = s.due - a.end;
                clock.least = clock.least == -2 ? time : Math.min(clock.least, time);
            } else {
                still.add(s);
            }
        }
        clock.waiting = still;
        clock.now = a.end;
        clock.frame = (a.frame + 1) % tables.get(a.mode).frames;
        if (clock.nextMode >= 0 && clock.nextTime == clock.now) {
            clock.mode = clock.nextMode;
            clock.frame = 0;
            clock.nextMode = -2;
            clock.nextTime = -2;
        }
        return got;
    }

    int step(int overrun) {
        int r = clockless(overrun >= 0 && overrun <= 99);
        return r != 0 ? no(r) : yes(step0(overrun));
    }

    int run(int n) {
        int r = clockless(n >= 1 && n <= 100);
        if (r != 0) {
            return no(r);
        }
        int before = clock.done;
        for (int i = 0; i < n; i++) {
            step0(0);
        }
        return yes(clock.done - before);
    }

    private int safe(int m) {
        for (Ahead a : frames(clock, -2, -2, 200)) {
            boolean open = tables.get(a.mode).openAt(a.frame) != 0;
            if (!open && inTime(clock.waiting, frames(clock, m, a.begin, 200))) {
                return a.begin;
            }
        }
        throw new IllegalStateException("no safe end");
    }

    private int switchless(int m) {
        if (noMode(m)) {
            return 1;
        }
        return tables.get(clock.mode) == null || tables.get(m) == null || clock.nextMode >= 0 ? 5 : 0;
    }

    int safeEnd(int m) {
        int r = switchless(m);
        return r != 0 ? no(r) : yes(safe(m));
    }

    int change(int m) {
        int r = switchless(m);
        if (r != 0) {
            return no(r);
        }
        int time = safe(m);
        if (time == clock.now) {
            clock.mode = m;
            clock.frame = 0;
        } else {
            clock.nextMode = m;
            clock.nextTime = time;
        }
        return yes(time);
    }

    boolean keep() {
        trouble = modes.isEmpty() ? 1 : 0;
        if (!modes.isEmpty()) {
            kept = clock.copy();
        }
        return !modes.isEmpty();
    }

    boolean back() {
        trouble = kept == null ? 1 : 0;
        if (kept != null) {
            clock = kept.copy();
        }
        return kept != null;
    }

    // ---- changes

    int recost(int m, int t, int cost) {
        if (noMode(m) || t < 0 || t >= modes.get(m).tasks.size()) {
            return no(1);
        }
        if (cost < 1 || cost > 60) {
            return no(2);
        }
        int was = modes.get(m).tasks.get(t).cost;
        modes.get(m).tasks.get(t).cost = cost;
        anew();
        return yes(was);
    }

    int reframe(int m, int frame) {
        if (noMode(m)) {
            return no(1);
        }
        if (frame < 4 || frame > 60 || frame <= modes.get(m).reserve) {
            return no(2);
        }
        int was = modes.get(m).frame;
        modes.get(m).frame = frame;
        anew();
        return yes(was);
    }

    int reserve(int m, int reserve) {
        if (noMode(m)) {
            return no(1);
        }
        if (reserve < 0 || reserve > 59 || reserve >= modes.get(m).frame) {
            return no(2);
        }
        int was = modes.get(m).reserve;
        modes.get(m).reserve = reserve;
        anew();
        return yes(was);
    }

    // ---- timers

    private int timeless(int m, int n, int hz) {
        return noMode(m) ? 1 : n < 0 || n > 100000 || hz < 1 || hz > 100000 ? 2 : 0;
    }

    long ticks(int m, int n, int hz) {
        int r = timeless(m, n, hz);
        if (r != 0) {
            return no(r);
        }
        trouble = 0;
        return (long) ((double) (n * modes.get(m).frame) / (1000.0 / hz));
    }

    int astray(int m, int n, int hz) {
        int r = timeless(m, n, hz);
        if (r != 0) {
            return no(r);
        }
        double rest = (double) (n * modes.get(m).frame) % (1000.0 / hz);
        return yes(Float.floatToIntBits((float) rest));
    }

    // ---- what is told

    int idle(int i) {
        if (!modes.isEmpty() && tables.get(clock.mode) != null) {
            Table t = tables.get(clock.mode);
            int n = 0;
            for (int k = 0; k < t.frames; k++) {
                if (t.order(k).isEmpty()) {
                    if (n == i) {
                        return k;
                    }
                    n++;
                }
            }
        }
        throw new NoSuchElementException();
    }

    int size(int what) {
        int tasks = 0;
        int jobs = 0;
        for (Mode m : modes) {
            tasks += m.tasks.size();
            jobs += m.jobs().size();
        }
        return what < 0 || what > 4 ? -1
            : new int[] {modes.size(), tasks, jobs, tape.length(), kept == null ? 0 : 1}[what];
    }

    int trouble() {
        return trouble;
    }
}
