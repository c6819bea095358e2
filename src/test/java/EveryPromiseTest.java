import java.util.Map;
import java.util.TreeMap;

/** Each of the 50 promises has a test among those of boundary cases that is named with its number. */
public final class EveryPromiseTest {
    private static final Class<?>[] EDGES = {PlanEdgesTest.class, ModesEdgesTest.class, LengthsEdgesTest.class,
        TablesEdgesTest.class, ClockEdgesTest.class, SwitchEdgesTest.class, ChangesEdgesTest.class,
        TimersEdgesTest.class, ToldEdgesTest.class};

    public static void main(String[] args) {
        Check check = new Check("EveryPromiseTest");
        Map<Integer, Integer> tests = new TreeMap<>();
        for (Class<?> edges : EDGES) {
            for (String name : Check.testsOf(edges).keySet()) {
                tests.merge(Integer.valueOf(name.substring(7, 9)), 1, Integer::sum);
            }
        }
        for (int promise = 1; promise <= 50; promise++) {
            check.due("promise " + promise + " is tested", tests.containsKey(promise), true);
        }
        check.due("there are no others", tests.size(), 50);
        check.end();
    }
}
