import java.util.NoSuchElementException;

/** Promises 48 to 50: idle, size, trouble. */
public final class ToldTest {
    private static final Check CHECK = new Check("ToldTest");
    /** JOBS in FRAMES 0 and 2 of 5. */
    private static final String ZERO = Check.mode(4, 0) + Check.task(0, 20, 4, 4) + Check.task(8, 20, 1, 12);
    private static final String ONE = Check.mode(10, 3);
    private static final String TWO = Check.mode(7, 0) + Check.task(0, 20, 1, 20);

    public static void main(String[] args) {
        idle();
        size();
        trouble();
        CHECK.end();
    }

    private static void idleIs(String what, FrameRound x, int i, int due) {
        int got = -9;
        try {
            got = x.idle(i);
        } catch (NoSuchElementException e) {
            got = -8;
        }
        CHECK.due("48 " + what, got, due);
    }

    private static void idle() {
        FrameRound x = new FrameRound();
        CHECK.idleThrows("48 without a PLAN", x, 0);
        x = Check.planned(ZERO + ";" + ONE + ";" + TWO);
        idleIs("the first", x, 0, 1);
        idleIs("the second", x, 1, 3);
        idleIs("the third", x, 2, 4);
        CHECK.idleThrows("48 no fourth", x, 3);
        CHECK.idleThrows("48 less", x, -1);
        CHECK.idleThrows("48 the least", x, Integer.MIN_VALUE);
        CHECK.idleThrows("48 the greatest", x, Integer.MAX_VALUE);
        x.run(3);
        idleIs("wherever THE CLOCK is", x, 0, 1);
        x.change(1);
        idleIs("of THE CLOCK's mode", x, 0, x.clock(1) == 1 ? 0 : 1);
        x.run(2);
        idleIs("of mode 1", x, 0, 0);
        CHECK.idleThrows("48 one FRAME alone", x, 1);
        FrameRound y = Check.planned(TWO + ";" + ONE);
        CHECK.idleThrows("48 no TABLE", y, 0);
        FrameRound z = Check.planned(Check.mode(10, 0) + Check.task(0, 10, 10, 10));
        CHECK.idleThrows("48 none is idle", z, 0);
        // Without ROOM no FRAME has a PIECE, but one with SLACK may have one.
        FrameRound full = Check.planned(Check.mode(10, 0) + Check.task(0, 20, 1, 20));
        idleIs("SLACK is not enough", full, 0, 1);
    }

    private static void size() {
        FrameRound x = Check.planned(ZERO + ";" + ONE + ";" + TWO);
        CHECK.due("49 modes", x.size(0), 3);
        CHECK.due("49 TASKS", x.size(1), 3);
        CHECK.due("49 JOBS", x.size(2), 3);
        CHECK.due("49 THE TAPE", x.size(3), 0);
        CHECK.due("49 not kept", x.size(4), 0);
        x.feed(1, 2, 3, 4, 5);
        CHECK.due("49 bytes", x.size(3), 20);
        x.keep();
        CHECK.due("49 kept", x.size(4), 1);
        x.back();
        CHECK.due("49 still kept", x.size(4), 1);
        int[] others = {5, -1, Integer.MAX_VALUE, Integer.MIN_VALUE};
        for (int what : others) {
            CHECK.due("49 others", x.size(what), -1);
        }
        FrameRound y = Check.planned(Check.mode(4, 0) + Check.task(0, 6, 1, 6) + Check.task(0, 4, 1, 4) + ";"
            + Check.mode(4, 0) + Check.task(0, 7, 1, 7));
        CHECK.due("49 JOBS of all", y.size(2), 2 + 3 + 1);
    }

    /** The latest call that may be refused: other calls leave it. */
    private static void trouble() {
        FrameRound x = new FrameRound();
        CHECK.due("50 at first", x.trouble(), 0);
        x.plan(1);
        stays(x, 2);
        Check.feed(x, "task");
        x.plan(x.size(3));
        stays(x, 4);
        Check.feed(x, ZERO + ";" + ONE + ";" + TWO);
        x.plan(x.size(3));
        stays(x, 0);
        x.mode(3, 0);
        stays(x, 1);
        x.judge(0, 3);
        stays(x, 2);
        x.pieces(2);
        stays(x, 5);
        for (int i = 0; i < 9; i++) {
            x.take(1, 400);
        }
        stays(x, 3);
        x.hasTable(2);
        stays(x, 0);
        x.back();
        stays(x, 1);
        x.keep();
        stays(x, 0);
        x.load(-1);
        stays(x, 1);
        x.load(0);
        stays(x, 0);
        x.ticks(0, -1, 1);
        stays(x, 2);
        x.ticks(0, 1, 1);
        stays(x, 0);
        x.change(2);
        stays(x, 5);
    }

    private static void stays(FrameRound x, int number) {
        CHECK.due("50 TROUBLE", x.trouble(), number);
        x.size(0);
        x.size(99);
        x.fault();
        x.where();
        CHECK.idleThrows("50 idle", x, 99);
        x.feed(0x20202020, 0x20202020, 0x20202020, 0x20202020, 0x20202020);
        CHECK.due("50 TROUBLE stays", x.trouble(), number);
    }
}
