/** Boundary cases of promises 1 to 5 and of Terms I: a new object, feed, plan, fault, where. */
public final class PlanEdgesTest {
    private static final Check CHECK = new Check("PlanEdgesTest");
    /** 23 bytes. */
    private static final String MODE = "mode frame 10 reserve 2";
    private static final String TASK = MODE + ";task phase ";
    private static final int BLANKS = 0x20202020;

    public static void main(String[] args) {
        CHECK.runAll(PlanEdgesTest.class);
        CHECK.end();
    }

    private static int feedBlanks(FrameRound x) {
        return x.feed(BLANKS, BLANKS, BLANKS, BLANKS, BLANKS);
    }

    private static String blanks(int n) {
        return " ".repeat(n);
    }

    /** The text has this FAULT, at this place, and is no PLAN. */
    private static void fault(String text, int fault, int place) {
        FrameRound x = new FrameRound();
        CHECK.refused(text, x, Check.plan(x, text), 4);
        CHECK.due("FAULT of " + text, x.fault(), fault);
        CHECK.due("place in " + text, x.where(), place);
        CHECK.due("no PLAN by " + text, x.size(0), 0);
    }

    private static FrameRound good(String text, int modes) {
        FrameRound x = new FrameRound();
        CHECK.told(text, x, Check.plan(x, text), modes);
        CHECK.due("FAULT of " + text, x.fault(), 0);
        CHECK.due("place in " + text, x.where(), -1);
        CHECK.due("modes by " + text, x.size(0), modes);
        return x;
    }

    // ---- promise 1

    static void promise01_noPlan() {
        FrameRound x = new FrameRound();
        for (int what = 0; what <= 4; what++) {
            CHECK.due("size " + what, x.size(what), 0);
        }
        CHECK.due("fault", x.fault(), 0);
        CHECK.due("where", x.where(), -1);
        CHECK.due("trouble", x.trouble(), 0);
        CHECK.refused("mode", x, x.mode(0, 0), 1);
        CHECK.refused("clock", x, x.clock(0), 1);
        CHECK.due("keep", x.keep(), false);
    }

    static void promise01_objectsAreApart() {
        FrameRound x = new FrameRound();
        Check.plan(x, MODE);
        Check.feed(x, MODE);
        x.run(1);
        FrameRound y = new FrameRound();
        CHECK.due("no modes", y.size(0), 0);
        CHECK.due("no bytes", y.size(3), 0);
        Check.plan(y, "mode frame 20 reserve 0;?");
        CHECK.due("the other's PLAN", x.mode(0, 0), 10);
        CHECK.due("the other's TAPE", x.size(3), 40);
        CHECK.due("the other's CLOCK", x.clock(0), 10);
        CHECK.due("the other's FAULT", x.fault(), 0);
        CHECK.due("its own FAULT", y.fault(), 1);
    }

    /** 512 calls: the last of them is answered as the first. */
    static void promise01_allOf512Calls() {
        FrameRound x = new FrameRound();
        Check.plan(x, MODE);
        for (int call = 4; call <= 511; call++) {
            x.run(100);
        }
        CHECK.due("the 512th", x.clock(0), 508 * 100 * 10);
    }

    // ---- promise 2

    static void promise02_upTo700() {
        FrameRound x = new FrameRound();
        for (int n = 1; n <= 35; n++) {
            CHECK.due("feed " + n, feedBlanks(x), 20 * n);
            CHECK.due("bytes " + n, x.size(3), 20 * n);
        }
        for (int n = 0; n < 3; n++) {
            CHECK.due("more than 700", feedBlanks(x), -1);
            CHECK.due("none comes", x.size(3), 700);
        }
    }

    static void promise02_ofOneThatIsRefusedNoneComes() {
        FrameRound x = new FrameRound();
        Check.feed(x, blanks(677) + MODE);
        CHECK.due("it is full", x.size(3), 700);
        CHECK.due("refused", x.feed(-1, -1, -1, -1, -1), -1);
        CHECK.told("as it was", x, x.plan(700), 1);
        CHECK.due("its RESERVE", x.mode(0, 1), 2);
    }

    static void promise02_roomAgainOnceItIsEmpty() {
        FrameRound x = new FrameRound();
        Check.feed(x, MODE + blanks(677));
        CHECK.due("full", feedBlanks(x), -1);
        CHECK.told("a PLAN", x, x.plan(700), 1);
        CHECK.due("20 again", feedBlanks(x), 20);
        Check.feed(x, blanks(680));
        CHECK.due("full again", feedBlanks(x), -1);
        CHECK.refused("a FAULT", x, x.plan(1), 4);
        CHECK.due("20 once more", feedBlanks(x), 20);
    }

    /** A sign that begins no TOKEN, at each of the twenty places: where it is told. */
    static void promise02_theHighestFirst() {
        for (int at = 0; at < 20; at++) {
            int[] number = {BLANKS, BLANKS, BLANKS, BLANKS, BLANKS};
            int shift = 24 - 8 * (at % 4);
            number[at / 4] = BLANKS & ~(255 << shift) | 255 << shift;
            FrameRound x = new FrameRound();
            feedBlanks(x);
            CHECK.due("behind it", x.feed(number[0], number[1], number[2], number[3], number[4]), 40);
            CHECK.refused("a byte of 255", x, x.plan(40), 4);
            CHECK.due("its place", x.where(), 20 + at);
        }
    }

    /** No number of refusal is told of feed: TROUBLE is that of the call ahead of it. */
    static void promise02_leavesTrouble() {
        FrameRound x = new FrameRound();
        x.plan(1);
        feedBlanks(x);
        CHECK.due("taken: it stays", x.trouble(), 2);
        x.plan(20);
        feedBlanks(x);
        CHECK.due("taken: 4 stays", x.trouble(), 4);
        CHECK.due("the place too", x.where(), 20);
        for (int n = 2; n <= 36; n++) {
            feedBlanks(x);
        }
        CHECK.due("not taken: 4 stays", x.trouble(), 4);
        CHECK.due("the place too", x.where(), 20);
        x.plan(701);
        feedBlanks(x);
        CHECK.due("not taken: 2 stays", x.trouble(), 2);
    }

    static void promise02_doesNotTouchPlanOrClock() {
        FrameRound x = Check.planned(MODE);
        x.run(1);
        Check.feed(x, "mode frame 20 reserve 0");
        CHECK.due("FRAME", x.mode(0, 0), 10);
        CHECK.due("NOW", x.clock(0), 10);
    }

    // ---- promise 3

    static void promise03_numbers() {
        FrameRound x = new FrameRound();
        CHECK.refused("1 of none", x, x.plan(1), 2);
        CHECK.refused("-1 of none", x, x.plan(-1), 2);
        Check.feed(x, MODE);
        int[] wrong = {-1, 41, 700, 701, Integer.MIN_VALUE, Integer.MAX_VALUE};
        for (int n : wrong) {
            CHECK.refused("n " + n, x, x.plan(n), 2);
        }
        CHECK.told("all 40", x, x.plan(40), 1);
    }

    /** 700 bytes at most: 700 of them is the last n there is, 701 the first that isn't. */
    static void promise03_all700() {
        FrameRound x = new FrameRound();
        Check.feed(x, MODE + blanks(677));
        CHECK.refused("701", x, x.plan(701), 2);
        CHECK.due("THE TAPE stays", x.size(3), 700);
        CHECK.told("700", x, x.plan(700), 1);
    }

    static void promise03_nothing() {
        FrameRound x = new FrameRound();
        CHECK.refused("0 of none", x, x.plan(0), 4);
        CHECK.due("FORM, not LACKS", x.fault(), 1);
        CHECK.due("at the end", x.where(), 0);
        Check.feed(x, MODE);
        CHECK.refused("0 of some", x, x.plan(0), 4);
        CHECK.due("at the end", x.where(), 0);
        CHECK.due("THE TAPE is empty", x.size(3), 0);
    }

    static void promise03_refusedBy2TheTapeStays() {
        FrameRound x = Check.planned("mode frame 20 reserve 1;" + MODE);
        x.run(3);
        x.keep();
        Check.feed(x, MODE);
        CHECK.refused("too many", x, x.plan(41), 2);
        CHECK.due("how many", x.size(3), 40);
        CHECK.refused("too few", x, x.plan(-1), 2);
        CHECK.due("how many", x.size(3), 40);
        CHECK.due("the PLAN stays", x.size(0), 2);
        CHECK.due("its FRAME", x.mode(0, 0), 20);
        CHECK.due("THE CLOCK stays", x.clock(0), 60);
        CHECK.due("it is still kept", x.size(4), 1);
        CHECK.told("its text stays", x, x.plan(23), 1);
        CHECK.due("as it was", x.mode(0, 0), 10);
    }

    static void promise03_theTapeIsEmptyThen() {
        FrameRound x = new FrameRound();
        Check.feed(x, MODE + ";" + MODE);
        CHECK.told("the first 23", x, x.plan(23), 1);
        CHECK.due("empty", x.size(3), 0);
        CHECK.refused("none of it is left", x, x.plan(1), 2);
        Check.feed(x, "mode frame 12 reserve 3");
        CHECK.told("from its beginning", x, x.plan(23), 1);
        CHECK.due("FRAME", x.mode(0, 0), 12);
        Check.feed(x, "? " + MODE);
        CHECK.refused("a FAULT", x, x.plan(25), 4);
        CHECK.due("empty by a FAULT too", x.size(3), 0);
        CHECK.refused("none of it is left", x, x.plan(1), 2);
    }

    static void promise03_theFirstBytesAlone() {
        FrameRound x = new FrameRound();
        Check.feed(x, "mode frame 60 reserve 59");
        CHECK.told("a WHOLE cut", x, x.plan(23), 1);
        CHECK.due("RESERVE", x.mode(0, 1), 5);
        Check.feed(x, MODE + "?");
        CHECK.told("what is behind isn't read", x, x.plan(23), 1);
        Check.feed(x, MODE + "?");
        CHECK.refused("if it isn't behind", x, x.plan(24), 4);
        CHECK.due("it is", x.where(), 23);
    }

    /** All that THE CLOCK has, and each part of the PLAN, with a text whose FAULT comes late. */
    static void promise03_refusedBy4PlanAndClockStay() {
        FrameRound x = Check.planned("mode frame 5 reserve 1;task phase 0 every 20 costs 6 within 20;"
            + "mode frame 4 reserve 3");
        x.run(1);
        x.take(4, 15);
        x.take(1, 38);
        x.step(9);
        x.change(1);
        x.keep();
        int[] clock = {10, 0, 2, 2, 0, 2, 7, 1, 15, -2};
        String[] texts = {"", "?", "mode frame 3", MODE + ";" + MODE + ";" + MODE + ";mode", "task",
            TASK + "0 every 60 costs 1 within 60;task phase 0 every 7",
            TASK + "0 every 60 costs 1 within 60;task phase 0 every 2"};
        int[] faults = {1, 1, 2, 3, 4, 5, 6};
        for (int i = 0; i < texts.length; i++) {
            CHECK.refused(texts[i], x, Check.plan(x, texts[i]), 4);
            CHECK.due("FAULT", x.fault(), faults[i]);
            CHECK.due("modes", x.size(0), 2);
            CHECK.due("TASKS", x.size(1), 1);
            CHECK.due("JOBS", x.size(2), 1);
            CHECK.due("FRAME", x.mode(0, 0), 5);
            CHECK.due("COST", x.task(0, 0, 2), 6);
            CHECK.due("TABLE", x.share(0, 0, 0), 4);
            for (int what = 0; what < clock.length; what++) {
                CHECK.due("clock " + what, x.clock(what), clock[what]);
            }
            CHECK.due("NEED", x.waiting(0, 0), 4);
            CHECK.due("DUE", x.waiting(1, 1), 38);
            CHECK.due("kept", x.size(4), 1);
        }
        CHECK.due("and back", x.back(), true);
    }

    static void promise03_aFaultAheadOfAnyPlan() {
        FrameRound x = new FrameRound();
        CHECK.refused("a FAULT in the third LINE", x, Check.plan(x, MODE + ";" + MODE + ";mode frame 61"), 4);
        CHECK.due("no modes", x.size(0), 0);
        CHECK.refused("no mode", x, x.mode(0, 0), 1);
        CHECK.refused("no CLOCK", x, x.clock(0), 1);
    }

    static void promise03_anotherPlanBeginsTheClock() {
        FrameRound x = Check.planned(MODE + ";" + MODE + ";" + MODE);
        x.change(2);
        x.take(8, 400);
        x.step(99);
        x.take(8, 400);
        x.keep();
        CHECK.told("fewer modes", x, Check.plan(x, "mode frame 20 reserve 19"), 1);
        int[] clock = {0, 0, 0, 0, 0, 0, 0, -2, -2, -2};
        for (int what = 0; what < clock.length; what++) {
            CHECK.told("clock " + what, x, x.clock(what), clock[what]);
        }
        CHECK.due("nothing is kept", x.size(4), 0);
        CHECK.due("no way back", x.back(), false);
        CHECK.refused("mode 1 is no more", x, x.mode(1, 0), 1);
        CHECK.told("its TABLE", x, x.slack(0, 0), 1);
    }

    /** One behind the other: of those ahead nothing counts, neither TASKS nor JOBS nor a ROUND. */
    static void promise03_onePlanBehindTheOther() {
        String[] texts = {TASK + "0 every 46 costs 1 within 1;task phase 0 every 2 costs 1 within 1", MODE,
            TASK + "3 every 60 costs 2 within 7", MODE + ";" + TASK + "0 every 59 costs 1 within 1"};
        int[][] due = {{1, 2, 24}, {1, 0, 0}, {1, 1, 1}, {2, 1, 1}};
        int[] rounds = {46, 10, 60, 10};
        FrameRound x = new FrameRound();
        for (int n = 0; n < 24; n++) {
            // Each of them behind each, the same one too.
            int i = (n / 4 * (n % 4) + n) % 4;
            CHECK.told(texts[i], x, Check.plan(x, texts[i]), due[i][0]);
            CHECK.told("TASKS of the last", x, x.mode(due[i][0] - 1, 2), due[i][1]);
            CHECK.due("TASKS", x.size(1), due[i][1]);
            CHECK.due("JOBS", x.size(2), due[i][2]);
            CHECK.told("ROUND", x, x.mode(0, 3), rounds[i]);
        }
        for (int n = 0; n < 4; n++) {
            CHECK.told("the same again", x, Check.plan(x, texts[0]), 1);
            CHECK.due("JOBS", x.size(2), 24);
        }
    }

    static void promise03_howManyModes() {
        good(MODE, 1);
        good(MODE + ";" + MODE, 2);
        good(MODE + ";" + MODE + ";" + MODE, 3);
    }

    /** 3 modes, each with 6 TASKS, 24 JOBS and a ROUND of 48. */
    static void promise03_full() {
        StringBuilder text = new StringBuilder();
        int[] every = {8, 8, 12, 12, 16, 48};
        for (int m = 0; m < 3; m++) {
            text.append(m == 0 ? "" : ";").append("mode frame4reserve0");
            for (int period : every) {
                text.append(";task phase0every").append(period).append("costs1within").append(period);
            }
        }
        FrameRound x = good(text.toString(), 3);
        CHECK.due("TASKS of all", x.size(1), 18);
        CHECK.due("JOBS of all", x.size(2), 72);
        for (int m = 0; m < 3; m++) {
            CHECK.due("TASKS", x.mode(m, 2), 6);
            CHECK.due("JOBS", x.mode(m, 4), 24);
            CHECK.due("ROUND", x.mode(m, 3), 48);
            CHECK.due("TABLE", x.hasTable(m), 1);
        }
        fault(text + ";task", 3, text.length() + 1);
        fault(text + ";mode", 3, text.length() + 1);
    }

    // ---- Terms I: TOKENS, by promises 4 and 5

    /** Each of 256 signs behind a LINE. */
    static void promise04_eachSign() {
        for (int sign = 0; sign < 256; sign++) {
            String text = MODE + (char) sign;
            if (sign == ' ') {
                good(text, 1);
            } else if (sign == ';') {
                fault(text, 1, 24);
            } else if (sign >= '0' && sign <= '9') {
                fault(text, 2, 22);
            } else {
                fault(text, 1, 23);
            }
        }
    }

    /** Each of 256 signs in the midst of a WORD. */
    static void promise04_eachSignInAWord() {
        for (int sign = 0; sign < 256; sign++) {
            String text = "mode fra" + (char) sign + "me 10 reserve 2";
            fault(text, 1, 5);
        }
    }

    /** Each of 256 signs ahead of a LINE. */
    static void promise04_eachSignAhead() {
        for (int sign = 0; sign < 256; sign++) {
            String text = (char) sign + MODE;
            if (sign == ' ') {
                good(text, 1);
            } else {
                fault(text, 1, 0);
            }
        }
    }

    static void promise04_blanksPartTokensAndMeanNothingElse() {
        FrameRound x = good("   mode   frame   10   reserve   2   ;   task   phase   3   every   20   costs   4"
            + "   within   17   ", 1);
        CHECK.due("SPAN", x.task(0, 0, 3), 17);
        good("mode frame 10 reserve 2", 1);
        fault("mo de frame 10 reserve 2", 1, 0);
        fault("mode frame 1 0 reserve 2", 2, 11);
        fault("mode frame 10 0 reserve 2", 1, 14);
        fault("mode frame 10 res erve 2", 1, 14);
    }

    static void promise04_tokensOfTwoSortsMayStandTogether() {
        FrameRound x = good("mode frame10reserve2;task phase3every20costs4within17;mode frame 4reserve 0", 2);
        CHECK.due("SPAN", x.task(0, 0, 3), 17);
        fault("modeframe 10 reserve 2", 1, 0);
        fault("mode frame 10 reserve 2task", 1, 23);
    }

    /** 7 letters are a WORD, 8 aren't, not even the first 7 of them. */
    static void promise04_wordsOf7() {
        good("mode frame 10 reserve 2", 1);
        fault("mode frame 10 reservee 2", 1, 14);
        fault("mode frame 10 reservereserve 2", 1, 14);
        fault("mode frame 10 reserv 2", 1, 14);
        fault("abcdefg", 1, 0);
        fault("abcdefgh", 1, 0);
        fault("modez frame 10 reserve 2", 1, 0);
        fault("modea frame 10 reserve 2", 1, 0);
        fault("mode framez 10 reserve 2", 1, 5);
        fault("mode frame 10 reserve 2z", 1, 23);
        fault(MODE + ";abcdefgh", 1, 24);
        fault(MODE + " abcdefgh", 1, 24);
    }

    /** 3 digits are a WHOLE, 4 aren't, not even the first 3 of them. */
    static void promise04_wholesOf3() {
        FrameRound x = good("mode frame 010 reserve 002", 1);
        CHECK.due("FRAME", x.mode(0, 0), 10);
        CHECK.due("RESERVE", x.mode(0, 1), 2);
        good("mode frame 10 reserve 000", 1);
        fault("mode frame 0010 reserve 2", 1, 11);
        fault("mode frame 0100 reserve 2", 1, 11);
        fault("mode frame 010 reserve 0000", 1, 23);
        fault("mode frame 999 reserve 2", 2, 11);
        fault("mode frame 1000 reserve 2", 1, 11);
        fault("mode frame 99999999999999999999 reserve 2", 1, 11);
        fault("mode frame 4294967306 reserve 2", 1, 11);
    }

    static void promise04_marks() {
        fault(";", 1, 0);
        fault(";" + MODE, 1, 0);
        fault(MODE + ";", 1, 24);
        fault(MODE + ";  ", 1, 26);
        fault(MODE + ";;" + MODE, 1, 24);
        fault(MODE + "; ;" + MODE, 1, 25);
        fault(MODE + " " + MODE, 1, 24);
        good(MODE + ";" + MODE, 2);
        fault("mode;frame 10 reserve 2", 1, 4);
        fault("mode frame 10;reserve 2", 1, 13);
    }

    static void promise04_noPlanGoesOnSo() {
        fault("frame 10 reserve 2", 1, 0);
        fault("10", 1, 0);
        fault("modes frame 10 reserve 2", 1, 0);
        fault("lode frame 10 reserve 2", 1, 0);
        fault("mode grame 10 reserve 2", 1, 5);
        fault("mode frame 10 teserve 2", 1, 14);
        fault("mode frame 10 reservf 2", 1, 14);
        fault(MODE + ";uask", 1, 24);
        fault(MODE + ";mask", 1, 24);
        fault(MODE + ";task chase", 1, 29);
        fault(TASK + "0 avery", 1, 37);
        fault(TASK + "0 every 20 bosts", 1, 46);
        fault(TASK + "0 every 20 costs 4 wathin", 1, 54);
        fault("mod frame 10 reserve 2", 1, 0);
        fault("mode task", 1, 5);
        fault("mode reserve 2 frame 10", 1, 5);
        fault("mode frame frame 10 reserve 2", 1, 11);
        fault("mode frame 10 reserve 2 2", 1, 24);
        fault("mode frame 10 reserve 2 mode", 1, 24);
        fault(MODE + ";every", 1, 24);
        fault(MODE + ";20", 1, 24);
        fault(MODE + ";tasks", 1, 24);
        fault(TASK + "0 costs 4", 1, 37);
        fault(TASK + "phase", 1, 35);
        fault(TASK + "0 every 20 within 4", 1, 46);
        fault(TASK + "0 every 20 costs 4 costs", 1, 54);
        fault(TASK + "0 every 20 costs 4 within 20 1", 1, 64);
        fault(TASK + "0 every 20 costs 4 within;", 1, 60);
    }

    /** The first n bytes of one text, for each n: the FAULT and its place, the end's being n. */
    static void promise05_theEnd() {
        String text = "mode frame 10 reserve 2;task phase 3 every 20 costs 4 within 17";
        int[] words = {0, 4, 5, 10, 14, 21, 24, 28, 29, 34, 37, 42, 46, 51, 54, 60};
        for (int n = 0; n <= text.length(); n++) {
            FrameRound x = new FrameRound();
            Check.feed(x, text);
            if (n == 23 || n >= 62) {
                CHECK.told("n " + n, x, x.plan(n), 1);
                continue;
            }
            int place = n;
            for (int w = 0; w < words.length; w += 2) {
                if (n > words[w] && n < words[w + 1]) {
                    place = words[w];
                }
            }
            boolean isCutWhole = n == 12 || n == 44;
            CHECK.refused("n " + n, x, x.plan(n), 4);
            CHECK.due("FAULT by " + n, x.fault(), isCutWhole ? 2 : 1);
            CHECK.due("place by " + n, x.where(), isCutWhole ? n - 1 : place);
        }
    }

    static void promise05_theEndBehindBlanks() {
        fault("", 1, 0);
        fault(" ", 1, 1);
        fault(blanks(700), 1, 700);
        fault("mode ", 1, 5);
        fault("mode   ", 1, 7);
        fault("mode frame 10 reserve   ", 1, 24);
        FrameRound x = new FrameRound();
        Check.feed(x, "mode");
        CHECK.refused("blanks that fill up", x, x.plan(20), 4);
        CHECK.due("their end", x.where(), 20);
    }

    // ---- Terms I: bounds

    static void promise04_frame() {
        fault("mode frame 0 reserve 0", 2, 11);
        fault("mode frame 3 reserve 0", 2, 11);
        CHECK.due("the least", good("mode frame 4 reserve 0", 1).mode(0, 0), 4);
        CHECK.due("the greatest", good("mode frame 60 reserve 0", 1).mode(0, 0), 60);
        fault("mode frame 61 reserve 0", 2, 11);
        fault("mode frame 999 reserve 0", 2, 11);
    }

    static void promise04_reserve() {
        CHECK.due("the least", good("mode frame 60 reserve 0", 1).mode(0, 1), 0);
        CHECK.due("the greatest", good("mode frame 60 reserve 59", 1).mode(0, 1), 59);
        fault("mode frame 60 reserve 60", 2, 22);
        CHECK.due("less than its FRAME", good("mode frame 4 reserve 3", 1).mode(0, 1), 3);
        fault("mode frame 4 reserve 4", 2, 21);
        fault("mode frame 4 reserve 5", 2, 21);
        CHECK.due("less than its FRAME", good("mode frame 59 reserve 58", 1).mode(0, 1), 58);
        fault("mode frame 59 reserve 59", 2, 22);
        fault("mode frame 60 reserve 9;mode frame 9 reserve 9", 2, 45);
    }

    static void promise04_phase() {
        CHECK.due("the least", good(TASK + "0 every 1 costs 1 within 1", 1).task(0, 0, 0), 0);
        CHECK.due("the greatest", good(TASK + "59 every 60 costs 1 within 1", 1).task(0, 0, 0), 59);
        fault(TASK + "60 every 60 costs 1 within 1", 2, 35);
        fault(TASK + "999", 2, 35);
    }

    static void promise04_period() {
        fault(TASK + "0 every 0 costs 1 within 1", 2, 43);
        CHECK.due("the least", good(TASK + "0 every 1 costs 1 within 1", 1).task(0, 0, 1), 1);
        CHECK.due("the greatest", good(TASK + "0 every 60 costs 1 within 1", 1).task(0, 0, 1), 60);
        fault(TASK + "0 every 61 costs 1 within 1", 2, 43);
    }

    static void promise04_periodAndPhase() {
        fault(TASK + "5 every 4", 2, 43);
        fault(TASK + "5 every 5", 2, 43);
        CHECK.due("PHASE and 1", good(TASK + "5 every 6 costs 1 within 1", 1).task(0, 0, 1), 6);
        fault(TASK + "1 every 1", 2, 43);
        fault(TASK + "59 every 59", 2, 44);
        fault(TASK + "58 every 58", 2, 44);
        CHECK.due("PHASE and 1", good(TASK + "58 every 59 costs 1 within 1", 1).task(0, 0, 1), 59);
    }

    static void promise04_cost() {
        fault(TASK + "0 every 20 costs 0 within 1", 2, 52);
        CHECK.due("the least", good(TASK + "0 every 20 costs 1 within 1", 1).task(0, 0, 2), 1);
        CHECK.due("the greatest", good(TASK + "0 every 20 costs 60 within 1", 1).task(0, 0, 2), 60);
        fault(TASK + "0 every 20 costs 61 within 1", 2, 52);
    }

    static void promise04_span() {
        fault(TASK + "0 every 20 costs 4 within 0", 2, 61);
        CHECK.due("the least", good(TASK + "0 every 20 costs 4 within 1", 1).task(0, 0, 3), 1);
        CHECK.due("the greatest", good(TASK + "0 every 60 costs 4 within 60", 1).task(0, 0, 3), 60);
        fault(TASK + "0 every 60 costs 4 within 61", 2, 61);
        fault(TASK + "0 every 60 costs 4 within 999", 2, 61);
    }

    static void promise04_spanAndPhase() {
        CHECK.due("together PERIOD", good(TASK + "5 every 20 costs 4 within 15", 1).task(0, 0, 3), 15);
        fault(TASK + "5 every 20 costs 4 within 16", 2, 61);
        fault(TASK + "0 every 20 costs 4 within 21", 2, 61);
        CHECK.due("just 1", good(TASK + "59 every 60 costs 4 within 1", 1).task(0, 0, 3), 1);
        fault(TASK + "59 every 60 costs 4 within 2", 2, 62);
    }

    static void promise04_boundsOfTheLatestMode() {
        fault("mode frame 20 reserve 15;mode frame 10 reserve 15", 2, 47);
        good("mode frame 10 reserve 2;mode frame 20 reserve 15", 2);
    }

    // ---- Terms I: MANY, LACKS, LONG, CROWDED

    static void promise04_threeModes() {
        String three = MODE + ";" + MODE + ";" + MODE;
        good(three, 3);
        fault(three + ";mode", 3, 72);
        fault(three + ";" + MODE, 3, 72);
        fault(three + ";  mode frame 3", 3, 74);
        fault(three + ";mode?", 3, 72);
        FrameRound x = good(three + ";task phase 0 every 20 costs 1 within 20", 3);
        CHECK.due("a TASK of the third", x.mode(2, 2), 1);
        fault(three + ";task phase 0 every 20 costs 1 within 20;mode", 3, 112);
    }

    static void promise04_sixTasks() {
        StringBuilder six = new StringBuilder(MODE);
        for (int t = 0; t < 6; t++) {
            six.append(";task phase 0 every 20 costs ").append(t + 1).append(" within 20");
        }
        FrameRound x = good(six.toString(), 1);
        CHECK.due("six", x.mode(0, 2), 6);
        CHECK.due("the last", x.task(0, 5, 2), 6);
        fault(six + ";task", 3, six.length() + 1);
        fault(six + ";  task ?", 3, six.length() + 3);
        x = good(six + ";" + MODE + ";task phase 0 every 20 costs 9 within 20", 2);
        CHECK.due("the first of another", x.task(1, 0, 2), 9);
        CHECK.due("still six", x.mode(0, 2), 6);
    }

    static void promise04_aTaskAheadOfAnyMode() {
        fault("task", 4, 0);
        fault("  task phase 0 every 20 costs 1 within 20;" + MODE, 4, 2);
        fault("task?", 4, 0);
        fault("tasks", 1, 0);
        fault("tas", 1, 0);
    }

    /** 32 and 48: 96; 14 and 49: 98, the least that is more. */
    static void promise04_roundUpTo96() {
        FrameRound x = good(TASK + "0 every 32 costs 1 within 1;task phase 0 every 48 costs 1 within 1", 1);
        CHECK.due("96", x.mode(0, 3), 96);
        fault(TASK + "0 every 14 costs 1 within 1;task phase 0 every 49", 5, 82);
        fault(TASK + "0 every 14 costs 1 within 1;task phase 0 every 49 ?", 5, 82);
        fault(TASK + "0 every 60 costs 1 within 1;task phase 0 every 59", 5, 82);
        x = good(TASK + "0 every 60 costs 1 within 1;mode frame 10 reserve 2;task phase 0 every 59 costs 1 within 1", 2);
        CHECK.due("each mode has its own", x.mode(1, 3), 59);
        x = good(TASK + "0 every 60 costs 1 within 1", 1);
        CHECK.due("the FRAME doesn't count", x.mode(0, 3), 60);
    }

    /** 46 and 2: 1 and 23 JOBS; 48 and 2: 1 and 24; 2 first: its JOBS grow by the ROUND. */
    static void promise04_jobsUpTo24() {
        FrameRound x = good(TASK + "0 every 46 costs 1 within 1;task phase 0 every 2 costs 1 within 1", 1);
        CHECK.due("24", x.mode(0, 4), 24);
        x = good(TASK + "0 every 2 costs 1 within 1;task phase 0 every 46 costs 1 within 1", 1);
        CHECK.due("24", x.mode(0, 4), 24);
        fault(TASK + "0 every 48 costs 1 within 1;task phase 0 every 2", 6, 82);
        fault(TASK + "0 every 2 costs 1 within 1;task phase 0 every 48", 6, 81);
        fault(TASK + "0 every 2 costs 1 within 1;task phase 0 every 48 ?", 6, 81);
        fault(TASK + "0 every 1 costs 1 within 1;task phase 0 every 24", 6, 81);
        x = good(TASK + "0 every 1 costs 1 within 1;task phase 0 every 23 costs 1 within 1", 1);
        CHECK.due("24", x.mode(0, 4), 24);
        fault(TASK + "0 every 24 costs 1 within 1;task phase 0 every 1", 6, 82);
        x = good(TASK + "0 every 23 costs 1 within 1;task phase 0 every 1 costs 1 within 1", 1);
        CHECK.due("24", x.mode(0, 4), 24);
        fault(TASK + "0 every 46 costs 1 within 1;task phase 0 every 2 costs 1 within 1;task phase 0 every 46", 6, 120);
        x = good(TASK + "0 every 46 costs 1 within 1;task phase 0 every 2 costs 1 within 1;" + TASK
            + "0 every 46 costs 1 within 1;task phase 0 every 2 costs 1 within 1", 2);
        CHECK.due("each mode has its own", x.size(2), 48);
    }

    /** Of one place the least number. */
    static void promise04_severalAtOnePlace() {
        String sixty = TASK + "0 every 60 costs 1 within 1;task phase ";
        fault(sixty + "0 every 61", 2, 82);
        fault(sixty + "50 every 49", 2, 83);
        fault(sixty + "9 every 7", 2, 82);
        fault(sixty + "2 every 2", 2, 82);
        fault(sixty + "1 every 1", 2, 82);
        fault(sixty + "0 every 0", 2, 82);
        // 59 and 2: a ROUND of 118 with 61 JOBS.
        fault(TASK + "0 every 59 costs 1 within 1;task phase 0 every 2", 5, 82);
        fault(TASK + "0 every 2 costs 1 within 1;task phase 0 every 49", 5, 81);
        fault("", 1, 0);
        fault("   ", 1, 3);
    }

    /** The first that is met from the left. */
    static void promise04_severalPlaces() {
        fault("mode frame 3 reserve 3 ? task", 2, 11);
        fault("mode ? frame 3", 1, 5);
        fault("mode frame 10 reserve 10;task ?", 2, 22);
        fault("task;mode frame 3", 4, 0);
        fault(MODE + ";mode frame 61;task phase 60", 2, 35);
        fault(TASK + "60 every 0", 2, 35);
        fault(TASK + "0 every 20 costs 0 within 0", 2, 52);
        fault(TASK + "0 every 60 costs 1 within 1;task phase 0 every 7 costs 0", 5, 82);
        fault(TASK + "0 every 60 costs 1 within 1;task phase 0 every 2 costs 0", 6, 82);
        fault(MODE + ";" + MODE + ";" + MODE + ";mode frame 99", 3, 72);
        String[] behind = {";?", ";" + MODE, " ?", ";task", ";mode frame 3"};
        for (String more : behind) {
            fault("mode frame 3" + more, 2, 11);
            fault("mode frame 4 reserve 4" + more, 2, 21);
            fault(TASK + "60" + more, 2, 35);
            fault(TASK + "0 every 61" + more, 2, 43);
            fault(TASK + "0 every 20 costs 61" + more, 2, 52);
            fault(TASK + "0 every 20 costs 4 within 21" + more, 2, 61);
        }
    }

    // ---- promises 4 and 5 themselves

    static void promise04_ofTheLatestPlan() {
        FrameRound x = new FrameRound();
        CHECK.due("without one", x.fault(), 0);
        x.plan(1);
        CHECK.due("refused by 2: without one", x.fault(), 0);
        Check.plan(x, "task");
        CHECK.due("LACKS", x.fault(), 4);
        x.plan(1);
        x.mode(0, 0);
        CHECK.due("neither refused by 2 nor another call", x.fault(), 4);
        Check.plan(x, "?");
        CHECK.due("FORM", x.fault(), 1);
        Check.plan(x, MODE);
        CHECK.due("no FAULT", x.fault(), 0);
        x.plan(-1);
        CHECK.due("refused by 2: still none", x.fault(), 0);
        x.reserve(0, 99);
        CHECK.due("still none", x.fault(), 0);
    }

    static void promise05_onlyBehindARefusalBy4() {
        FrameRound x = new FrameRound();
        CHECK.due("at first", x.where(), -1);
        x.plan(1);
        CHECK.due("refused by 2", x.where(), -1);
        Check.plan(x, "task");
        CHECK.due("place 0 is one", x.where(), 0);
        CHECK.due("told twice", x.where(), 0);
        x.plan(1);
        CHECK.due("refused by 2", x.where(), -1);
        Check.plan(x, "mode frame 3");
        CHECK.due("a FAULT", x.where(), 11);
        x.hasTable(0);
        CHECK.due("another was refused", x.where(), -1);
        Check.plan(x, "  task");
        CHECK.due("a FAULT", x.where(), 2);
        Check.plan(x, MODE);
        CHECK.due("none was refused", x.where(), -1);
        Check.plan(x, "  task");
        x.clock(0);
        CHECK.due("another was not refused", x.where(), -1);
        Check.plan(x, "  task");
        x.keep();
        CHECK.due("keep may be refused", x.where(), -1);
        Check.plan(x, "  task");
        x.load(0);
        CHECK.due("load may be refused", x.where(), -1);
    }

    static void promise05_callsThatMayNotBeRefusedLeaveIt() {
        FrameRound x = Check.planned(MODE);
        Check.plan(x, "  task");
        x.feed(0, 0, 0, 0, 0);
        x.fault();
        x.size(0);
        x.size(9);
        x.trouble();
        x.idle(0);
        CHECK.idleThrows("none such", x, 1);
        CHECK.due("still", x.where(), 2);
    }
}
