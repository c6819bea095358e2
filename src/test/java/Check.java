import java.util.NoSuchElementException;

/** What the project's tests share: counting wrong answers, and PLANS told as texts. */
final class Check {
    private final String name;
    private int asked = 0;
    private int wrong = 0;

    Check(String name) {
        this.name = name;
    }

    void due(String what, long got, long want) {
        asked++;
        if (got != want) {
            wrong++;
            if (wrong <= 40) {
                System.out.println(name + ": " + what + " answered " + got + ", due is " + want);
            }
        }
    }

    void due(String what, boolean got, boolean want) {
        due(what, got ? 1L : 0L, want ? 1L : 0L);
    }

    /** An answer that is refused, and by which number. */
    void refused(String what, FrameRound x, long got, int number) {
        due(what, got, -1L);
        due(what + " trouble", x.trouble(), number);
    }

    /** An answer that is not refused. */
    void told(String what, FrameRound x, long got, long want) {
        due(what, got, want);
        due(what + " trouble", x.trouble(), 0);
    }

    void idleThrows(String what, FrameRound x, int i) {
        boolean threw = false;
        try {
            x.idle(i);
        } catch (NoSuchElementException e) {
            threw = true;
        }
        due(what + " throws", threw, true);
    }

    void end() {
        System.out.println(name + ": " + asked + " answers, " + wrong + " wrong");
        if (wrong != 0 || asked == 0) {
            System.exit(1);
        }
    }

    /** The text, filled up with blanks, comes behind THE TAPE; how many bytes it had itself. */
    static int feed(FrameRound x, String text) {
        StringBuilder filled = new StringBuilder(text);
        while (filled.length() % 20 != 0) {
            filled.append(' ');
        }
        for (int i = 0; i < filled.length(); i += 20) {
            x.feed(number(filled, i), number(filled, i + 4), number(filled, i + 8),
                number(filled, i + 12), number(filled, i + 16));
        }
        return text.length();
    }

    static int number(CharSequence text, int at) {
        return (text.charAt(at) & 255) << 24 | (text.charAt(at + 1) & 255) << 16
            | (text.charAt(at + 2) & 255) << 8 | text.charAt(at + 3) & 255;
    }

    static int plan(FrameRound x, String text) {
        return x.plan(feed(x, text));
    }

    static FrameRound planned(String text) {
        FrameRound x = new FrameRound();
        if (plan(x, text) < 0) {
            throw new IllegalStateException("fault " + x.fault() + " at " + x.where() + ": " + text);
        }
        return x;
    }

    static String mode(int frame, int reserve) {
        return "mode frame " + frame + " reserve " + reserve;
    }

    static String task(int phase, int every, int costs, int within) {
        return ";task phase " + phase + " every " + every + " costs " + costs + " within " + within;
    }
}
