import java.lang.reflect.InvocationTargetException;
import java.lang.reflect.Method;
import java.util.Map;
import java.util.NoSuchElementException;
import java.util.TreeMap;
import java.util.function.Supplier;

/** What the project's tests share: counting wrong answers, and PLANS told as texts. */
final class Check {
    private final String name;
    private int asked = 0;
    private int wrong = 0;
    private String test = "";

    Check(String name) {
        this.name = name;
    }

    void due(String what, long got, long want) {
        asked++;
        if (got != want) {
            wrong++;
            if (wrong <= 40) {
                System.out.println(name + ": " + test + what + " answered " + got + ", due is " + want);
            }
        }
    }

    void due(String what, boolean got, boolean want) {
        due(what, got ? 1L : 0L, want ? 1L : 0L);
    }

    /** An answer that is refused, and by which number. */
    void refused(String what, FrameRound x, long got, int number) {
        due(what, got, -1L);
        due(what + " trouble", x.trouble(), number);
    }

    /** An answer that is not refused. */
    void told(String what, FrameRound x, long got, long want) {
        due(what, got, want);
        due(what + " trouble", x.trouble(), 0);
    }

    void idleThrows(String what, FrameRound x, int i) {
        boolean threw = false;
        try {
            x.idle(i);
        } catch (NoSuchElementException e) {
            threw = true;
        }
        due(what + " throws", threw, true);
    }

    /** A call of any type, and its answer as it is written; NoSuchElementException is one, too. */
    void answers(String what, Supplier<Object> call, String want) {
        String got;
        try {
            got = String.valueOf(call.get());
        } catch (NoSuchElementException e) {
            got = "throws NoSuchElementException";
        }
        asked++;
        if (!got.equals(want)) {
            wrong++;
            System.out.println(name + ": " + what + " answered " + got + ", due is " + want);
        }
    }

    /** The tests of a class: its methods whose names begin with a promise's number. */
    static Map<String, Method> testsOf(Class<?> tests) {
        Map<String, Method> found = new TreeMap<>();
        for (Method m : tests.getDeclaredMethods()) {
            if (m.getName().matches("promise[0-9][0-9]_.*")) {
                found.put(m.getName(), m);
            }
        }
        return found;
    }

    /** Each on its own: one that throws, or asks nothing, is wrong, and the others are run all the same. */
    void runAll(Class<?> tests) {
        for (Map.Entry<String, Method> entry : testsOf(tests).entrySet()) {
            test = entry.getKey() + ": ";
            int before = asked;
            String thrown = "nothing";
            try {
                entry.getValue().invoke(null);
            } catch (InvocationTargetException e) {
                thrown = e.getCause().toString();
            } catch (IllegalAccessException e) {
                thrown = e.toString();
            }
            due("asks something", asked > before, true);
            due("throws " + thrown, thrown.equals("nothing"), true);
        }
        test = "";
    }

    void end() {
        System.out.println(name + ": " + asked + " answers, " + wrong + " wrong");
        if (wrong != 0 || asked == 0) {
            System.exit(1);
        }
    }

    /** The text, filled up with blanks, comes behind THE TAPE; how many bytes it had itself. */
    static int feed(FrameRound x, String text) {
        StringBuilder filled = new StringBuilder(text);
        while (filled.length() % 20 != 0) {
            filled.append(' ');
        }
        for (int i = 0; i < filled.length(); i += 20) {
            x.feed(number(filled, i), number(filled, i + 4), number(filled, i + 8),
                number(filled, i + 12), number(filled, i + 16));
        }
        return text.length();
    }

    static int number(CharSequence text, int at) {
        return (text.charAt(at) & 255) << 24 | (text.charAt(at + 1) & 255) << 16
            | (text.charAt(at + 2) & 255) << 8 | text.charAt(at + 3) & 255;
    }

    static int plan(FrameRound x, String text) {
        return x.plan(feed(x, text));
    }

    static FrameRound planned(String text) {
        FrameRound x = new FrameRound();
        if (plan(x, text) < 0) {
            throw new IllegalStateException("fault " + x.fault() + " at " + x.where() + ": " + text);
        }
        return x;
    }

    static String mode(int frame, int reserve) {
        return "mode frame " + frame + " reserve " + reserve;
    }

    static String task(int phase, int every, int costs, int within) {
        return ";task phase " + phase + " every " + every + " costs " + costs + " within " + within;
    }
}
