import java.lang.reflect.InvocationTargetException;
import java.lang.reflect.Method;
import java.util.ArrayList;
import java.util.Comparator;
import java.util.List;
import java.util.NoSuchElementException;
import java.util.Random;

/** Any call with any numbers in any state: as the Model answers, and never thrown but where it is promised. */
public final class WildTest {
    private static final Check CHECK = new Check("WildTest");
    private static final int[] EDGES = {Integer.MIN_VALUE, Integer.MIN_VALUE + 1, -400, -2, -1, 0, 0, 0, 1, 1, 2, 3, 4,
        5, 6, 7, 8, 10, 20, 24, 59, 60, 61, 96, 97, 99, 100, 101, 400, 401, 700, 100000, 100001, Integer.MAX_VALUE - 1,
        Integer.MAX_VALUE};
    private static final String[] PLANS = {
        Check.mode(5, 1) + Check.task(0, 20, 6, 20) + ";" + Check.mode(4, 3),
        Check.mode(7, 0) + Check.task(0, 20, 1, 20) + ";" + Check.mode(4, 3),
        Check.mode(4, 0) + Check.task(0, 48, 7, 48) + Check.task(0, 32, 3, 20) + Check.task(1, 24, 2, 23),
        Check.mode(60, 59) + ";" + Check.mode(60, 0) + Check.task(59, 60, 60, 1)};

    public static void main(String[] args) throws ReflectiveOperationException {
        List<Method> face = new ArrayList<>();
        for (Method m : FrameRound.class.getDeclaredMethods()) {
            if (java.lang.reflect.Modifier.isPublic(m.getModifiers())) {
                face.add(m);
            }
        }
        face.sort(Comparator.comparing(Method::getName));
        for (int seed = 0; seed < 200; seed++) {
            go(face, new Random(seed));
        }
        CHECK.end();
    }

    private static void go(List<Method> face, Random random) throws ReflectiveOperationException {
        FrameRound x = new FrameRound();
        Model y = new Model();
        if (random.nextInt(5) != 0) {
            String text = PLANS[random.nextInt(PLANS.length)];
            StringBuilder s = new StringBuilder(text);
            while (s.length() % 20 != 0) {
                s.append(' ');
            }
            for (int i = 0; i < s.length(); i += 20) {
                int[] n = new int[5];
                for (int k = 0; k < 5; k++) {
                    n[k] = Check.number(s, i + 4 * k);
                }
                x.feed(n[0], n[1], n[2], n[3], n[4]);
                y.feed(n[0], n[1], n[2], n[3], n[4]);
            }
            CHECK.due("plan", x.plan(text.length()), y.plan(text.length()));
        }
        for (int i = 0; i < 300; i++) {
            Method m = face.get(random.nextInt(face.size()));
            Object[] numbers = new Object[m.getParameterCount()];
            for (int k = 0; k < numbers.length; k++) {
                numbers[k] = random.nextInt(40) == 0 ? random.nextInt() : EDGES[random.nextInt(EDGES.length)];
            }
            Method other = Model.class.getDeclaredMethod(m.getName(), m.getParameterTypes());
            String what = m.getName() + java.util.Arrays.toString(numbers);
            CHECK.due(what, answer(m, x, numbers), answer(other, y, numbers));
            CHECK.due(what + " trouble", x.trouble(), y.trouble());
        }
    }

    /** 1 << 62 stands for NoSuchElementException; no other may be thrown. */
    private static long answer(Method m, Object on, Object[] numbers) throws ReflectiveOperationException {
        try {
            Object got = m.invoke(on, numbers);
            return got instanceof Boolean ? (Boolean) got ? 1 : 0 : ((Number) got).longValue();
        } catch (InvocationTargetException e) {
            if (e.getCause() instanceof NoSuchElementException && m.getName().equals("idle")) {
                return 1L << 62;
            }
            throw e;
        }
    }
}
