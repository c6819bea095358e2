/** Promises 1 to 5: a new object, feed, plan, fault, where. */
public final class PlanTest {
    private static final Check CHECK = new Check("PlanTest");
    private static final String MODE = "mode frame 10 reserve 2";

    public static void main(String[] args) {
        newObject();
        feed();
        feedLeavesTrouble();
        planNumbers();
        planStays();
        formFaults();
        boundFaults();
        roomFaults();
        roundFaults();
        goodTexts();
        faultAndWhere();
        CHECK.end();
    }

    private static void newObject() {
        FrameRound x = new FrameRound();
        for (int what = 0; what <= 4; what++) {
            CHECK.due("1 size " + what, x.size(what), 0);
        }
        CHECK.due("1 trouble", x.trouble(), 0);
        CHECK.due("1 fault", x.fault(), 0);
        CHECK.due("1 where", x.where(), -1);
        CHECK.refused("1 mode", x, x.mode(0, 0), 1);
        CHECK.refused("1 clock", x, x.clock(0), 1);
        CHECK.due("1 NONE", FrameRound.NONE, -1);
    }

    private static void feed() {
        FrameRound x = new FrameRound();
        for (int n = 1; n <= 35; n++) {
            CHECK.due("2 feed", x.feed(0x20202020, 0x20202020, 0x20202020, 0x20202020, 0x20202020), 20 * n);
        }
        CHECK.due("2 feed of too much", x.feed(0, 0, 0, 0, 0), -1);
        CHECK.due("2 none comes", x.size(3), 700);
        CHECK.due("2 all of it", x.plan(700), -1);
        CHECK.due("2 all blanks: the end", x.where(), 700);
        CHECK.due("2 there is room again", x.feed(0x6d6f6465, 0x20667261, 0x6d652031, 0x30207265, 0x73657276), 20);
        x.feed(0x65203220, 0x20202020, 0x20202020, 0x20202020, 0x2020203b);
        CHECK.due("2 the highest byte comes first", x.plan(39), 1);
        CHECK.due("2 its FRAME", x.mode(0, 0), 10);
        CHECK.due("2 its RESERVE", x.mode(0, 1), 2);
        x.feed(-1, -1, -1, -1, -1);
        x.plan(20);
        CHECK.due("2 bytes over 127 begin no TOKEN", x.fault(), 1);
    }

    /** No number is told for feed: TROUBLE is still that of the call before it. */
    private static void feedLeavesTrouble() {
        FrameRound x = new FrameRound();
        x.plan(1);
        x.feed(0, 0, 0, 0, 0);
        CHECK.due("2 TROUBLE stays", x.trouble(), 2);
        x.plan(20);
        x.feed(0, 0, 0, 0, 0);
        CHECK.due("2 so does where", x.where(), 0);
    }

    private static void planNumbers() {
        FrameRound x = new FrameRound();
        int n = Check.feed(x, MODE + "?");
        CHECK.refused("3 n less than 0", x, x.plan(-1), 2);
        CHECK.refused("3 the least n", x, x.plan(Integer.MIN_VALUE), 2);
        CHECK.refused("3 n more than THE TAPE has", x, x.plan(41), 2);
        CHECK.refused("3 the greatest n", x, x.plan(Integer.MAX_VALUE), 2);
        CHECK.due("3 THE TAPE stays", x.size(3), 40);
        CHECK.told("3 the first bytes alone", x, x.plan(n - 1), 1);
        CHECK.due("3 THE TAPE is empty", x.size(3), 0);
        Check.feed(x, MODE + "?");
        CHECK.refused("3 a FAULT", x, x.plan(n), 4);
        CHECK.due("3 THE TAPE is empty by a FAULT too", x.size(3), 0);
        CHECK.refused("3 nothing at all", x, x.plan(0), 4);
        CHECK.told("3 three", x, Check.plan(x, MODE + ";" + MODE + ";" + MODE), 3);
        Check.feed(x, MODE);
        Check.feed(x, Check.task(0, 20, 1, 20));
        CHECK.told("3 all of THE TAPE", x, x.plan(x.size(3)), 1);
        CHECK.due("3 as it was fed", x.size(1), 1);
    }

    private static void planStays() {
        FrameRound x = Check.planned(MODE + Check.task(0, 20, 4, 20));
        x.take(3, 20);
        x.run(1);
        x.keep();
        CHECK.refused("3 a FAULT", x, Check.plan(x, "mode frame 12 reserve 1;mode"), 4);
        CHECK.due("3 the PLAN stays", x.mode(0, 0), 10);
        CHECK.due("3 its TASKS", x.task(0, 0, 2), 4);
        CHECK.due("3 THE CLOCK stays", x.clock(0), 10);
        CHECK.due("3 it stays kept", x.size(4), 1);
        CHECK.told("3 another", x, Check.plan(x, "mode frame 12 reserve 1"), 1);
        CHECK.due("3 the PLAN is another", x.mode(0, 0), 12);
        CHECK.due("3 without TASKS", x.size(1), 0);
        CHECK.due("3 THE CLOCK begins", x.clock(0), 0);
        CHECK.due("3 nothing is kept", x.size(4), 0);
    }

    private static void fault(String text, int fault, int place) {
        FrameRound x = new FrameRound();
        CHECK.refused("4 " + text, x, Check.plan(x, text), 4);
        CHECK.due("4 FAULT of " + text, x.fault(), fault);
        CHECK.due("5 place in " + text, x.where(), place);
        CHECK.due("4 no PLAN by " + text, x.size(0), 0);
    }

    private static void formFaults() {
        fault("", 1, 0);
        fault("   ", 1, 3);
        fault(";", 1, 0);
        fault("frame", 1, 0);
        fault("5", 1, 0);
        fault("modes frame 10 reserve 2", 1, 0);
        fault("mod frame 10 reserve 2", 1, 0);
        fault("lode frame 10 reserve 2", 1, 0);
        fault("modez frame 10 reserve 2", 1, 0);
        fault("mode frame 10 reserve 2;aask", 1, 24);
        fault("Mode frame 10 reserve 2", 1, 0);
        fault("mode 10 reserve 2", 1, 5);
        fault("mode frame reserve 2", 1, 11);
        fault("mode frame 10 2", 1, 14);
        fault("mode frame 10 reserve", 1, 21);
        fault("mode frame 10 reserve  ", 1, 23);
        fault("mode frame 10 reserve ;", 1, 22);
        fault("mode frame 10 reserve 2 3", 1, 24);
        fault("mode frame 10 reserve 2 mode", 1, 24);
        fault("mode frame 10 reserve 2,", 1, 23);
        fault("mode frame 10 reserve 2\t", 1, 23);
        fault("mode frame 1 0 reserve 2", 2, 11);
        fault("mode frame 10 reserve 2;;" + MODE, 1, 24);
        fault("mode frame 10 reserve 2;" + "phase", 1, 24);
        fault("mode frame 0010 reserve 2", 1, 11);
        fault("modeframe 10 reserve 2", 1, 0);
        fault("mode frame 10 reserves 2", 1, 14);
        fault("mode frame 10 reserve -1", 1, 22);
        fault(MODE + ";task phase 0 every 20 costs 4", 1, 53);
        fault(MODE + ";task phase 0 every 20 within 4", 1, 46);
        fault(MODE + ";task phase 0 every 20 costs 4 within 20 within", 1, 64);
        fault(MODE + ";task every", 1, 29);
    }

    private static void boundFaults() {
        fault("mode frame 3 reserve 0", 2, 11);
        fault("mode frame 61 reserve 0", 2, 11);
        fault("mode frame 999", 2, 11);
        fault("mode frame 4 reserve 4", 2, 21);
        fault("mode frame 60 reserve 60", 2, 22);
        fault("mode frame 61 reserve 61 ?", 2, 11);
        String task = MODE + ";task phase ";
        fault(task + "60", 2, 35);
        fault(task + "0 every 0", 2, 43);
        fault(task + "0 every 61", 2, 43);
        fault(task + "5 every 5", 2, 43);
        fault(task + "59 every 59", 2, 44);
        fault(task + "0 every 20 costs 0", 2, 52);
        fault(task + "0 every 20 costs 61", 2, 52);
        fault(task + "0 every 20 costs 4 within 0", 2, 61);
        fault(task + "0 every 20 costs 4 within 21", 2, 61);
        fault(task + "5 every 20 costs 4 within 16", 2, 61);
        fault(task + "0 every 60 costs 4 within 61", 2, 61);
        fault(task + "60;" + MODE, 2, 35);
        fault(task + "0 every 0;" + MODE, 2, 43);
        fault(task + "0 every 20 costs 0;" + MODE, 2, 52);
        fault(task + "0 every 20 costs 4 within 0;" + MODE, 2, 61);
        fault(task + "60;?", 2, 35);
        fault(task + "0 every 0;?", 2, 43);
        fault(task + "0 every 20 costs 0;?", 2, 52);
        fault(task + "0 every 20 costs 4 within 0;?", 2, 61);
        fault("mode frame 3;" + MODE, 2, 11);
        fault("mode frame 4 reserve 4;" + MODE, 2, 21);
    }

    private static void roomFaults() {
        fault(MODE + ";" + MODE + ";" + MODE + ";mode", 3, 72);
        fault(MODE + ";" + MODE + ";" + MODE + ";mode ?", 3, 72);
        StringBuilder six = new StringBuilder(MODE);
        for (int t = 0; t < 6; t++) {
            six.append(Check.task(0, 20, 1, 20));
        }
        fault(six + ";task", 3, six.length() + 1);
        FrameRound x = Check.planned(six.toString());
        CHECK.due("4 six TASKS", x.size(1), 6);
        x = Check.planned(six + ";" + MODE + Check.task(0, 20, 1, 20));
        CHECK.due("4 a TASK of another mode", x.size(1), 7);
        fault("task", 4, 0);
        fault("  task ?", 4, 2);
        fault("task phase 0 every 10 costs 1 within 10;" + MODE, 4, 0);
    }

    private static void roundFaults() {
        String task = MODE + Check.task(0, 60, 1, 60) + ";task phase 0 every ";
        int at = task.length();
        fault(task + "7", 5, at);
        fault(task + "7 ?", 5, at);
        fault(task + "0", 2, at);
        fault(task + "48", 5, at);
        fault(task + "1", 6, at);
        fault(task + "2", 6, at);
        String more = MODE + Check.task(0, 48, 1, 48) + ";task phase 0 every ";
        fault(more + "36", 5, more.length());
        fault(more + "2", 6, more.length());
        fault(MODE + Check.task(0, 4, 1, 4) + ";task phase 0 every 31", 5, more.length() - 2);
        FrameRound x = Check.planned(MODE + Check.task(0, 32, 1, 32) + Check.task(0, 48, 1, 48));
        CHECK.due("4 a ROUND of 96", x.mode(0, 3), 96);
        x = Check.planned(MODE + Check.task(0, 46, 1, 46) + Check.task(0, 2, 1, 2));
        CHECK.due("4 24 JOBS", x.mode(0, 4), 24);
        fault(MODE + Check.task(0, 48, 1, 48) + ";task phase 0 every 2", 6, more.length());
        x = Check.planned(MODE + Check.task(0, 60, 1, 60) + ";" + MODE + Check.task(0, 7, 1, 7));
        CHECK.due("4 each mode has its ROUND", x.mode(1, 3), 7);
    }

    private static void goodTexts() {
        FrameRound x = Check.planned("mode frame10reserve2;task phase0every20costs4within20");
        CHECK.due("3 TOKENS needn't be parted by blanks", x.task(0, 0, 3), 20);
        x = Check.planned("  mode   frame 010 reserve 002  ;  task phase 000 every 020 costs 004 within 020  ");
        CHECK.due("3 zeros ahead", x.task(0, 0, 1), 20);
        x = Check.planned("mode frame 4 reserve 3;mode frame 60 reserve 59;mode frame 60 reserve 0");
        CHECK.due("3 the edges of a mode", x.mode(1, 1), 59);
        x = Check.planned(MODE + Check.task(59, 60, 60, 1) + Check.task(0, 60, 1, 60));
        CHECK.due("3 the edges of a TASK", x.task(0, 0, 0), 59);
        CHECK.due("3 its COST", x.task(0, 0, 2), 60);
        CHECK.due("3 its SPAN", x.task(0, 0, 3), 1);
        x = Check.planned(MODE + Check.task(0, 1, 1, 1) + Check.task(0, 3, 1, 3));
        CHECK.due("3 the least PERIOD", x.mode(0, 3), 3);
        CHECK.due("3 its JOBS", x.task(0, 0, 4), 3);
        CHECK.due("3 all JOBS", x.mode(0, 4), 4);
        CHECK.due("3 a JOB of it", x.job(0, 2, 1), 1);
        fault(MODE + Check.task(0, 1, 1, 1) + ";task phase 0 every 24", 6, 81);
        String[] others = {Check.task(0, 12, 2, 12) + Check.task(0, 6, 1, 6), Check.task(3, 10, 1, 7), ""};
        int[] rounds = {12, 10, 10};
        int[] jobs = {3, 1, 0};
        for (int n = 0; n < 9; n++) {
            CHECK.told("3 one PLAN behind the other", x, Check.plan(x, MODE + others[n % 3]), 1);
            CHECK.due("3 its ROUND", x.mode(0, 3), rounds[n % 3]);
            CHECK.due("3 its JOBS", x.mode(0, 4), jobs[n % 3]);
            CHECK.due("3 TASKS", x.size(1), 2 - n % 3);
            CHECK.due("3 JOBS", x.size(2), jobs[n % 3]);
        }
    }

    private static void faultAndWhere() {
        FrameRound x = new FrameRound();
        Check.plan(x, "mode frame 3");
        CHECK.due("5 place", x.where(), 11);
        CHECK.due("5 calls that can't be refused leave it", x.size(0) + x.fault() + x.trouble(), 6);
        CHECK.due("5 still", x.where(), 11);
        CHECK.idleThrows("5 idle", x, 0);
        CHECK.due("5 idle leaves it too", x.where(), 11);
        x.mode(0, 0);
        CHECK.due("5 another call was refused", x.where(), -1);
        CHECK.due("4 the FAULT is told on", x.fault(), 2);
        x.plan(5);
        CHECK.due("4 plan refused by 2", x.trouble(), 2);
        CHECK.due("4 doesn't count", x.fault(), 2);
        CHECK.due("5 and has no place", x.where(), -1);
        Check.plan(x, MODE);
        CHECK.due("4 without one", x.fault(), 0);
        CHECK.due("5 without one", x.where(), -1);
        Check.plan(x, "task");
        CHECK.due("4 a new one", x.fault(), 4);
        CHECK.due("5 at 0", x.where(), 0);
        x.goods(0);
        CHECK.due("5 a call that wasn't refused", x.where(), -1);
    }
}
