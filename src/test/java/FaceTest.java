import java.io.IOException;
import java.lang.reflect.Constructor;
import java.lang.reflect.Field;
import java.lang.reflect.Method;
import java.lang.reflect.Modifier;
import java.nio.charset.StandardCharsets;
import java.nio.file.Files;
import java.nio.file.Path;
import java.util.Arrays;
import java.util.Set;
import java.util.TreeSet;

/** The public face, as the document has it, and rules of LANGUAGE.md that can be seen from outside. */
public final class FaceTest {
    private static final Check CHECK = new Check("FaceTest");
    private static final String[] FACE = {
        "int feed(int,int,int,int,int)", "int plan(int)", "int fault()", "int where()", "int mode(int,int)",
        "int task(int,int,int)", "int job(int,int,int)", "long load(int)", "int judge(int,int)",
        "int most(int,int)", "int over(int,int)", "int cutFrames(int,int)", "int cutJobs(int,int)",
        "int goods(int)", "int good(int,int)", "int piecesBy(int,int)", "int fewestBy(int)",
        "int headroom(int,int)", "int reserveUpTo(int)", "int hasTable(int)", "int pieces(int)",
        "int swaps(int)", "int share(int,int,int)", "int begins(int,int,int)", "int finishes(int,int)",
        "int slack(int,int)", "int openAt(int,int)", "int clock(int)", "int ahead(int,int)",
        "int waiting(int,int)", "int canTake(int,int)", "int take(int,int)", "int soonest(int)",
        "int greatest(int)", "int spare()", "int step(int)", "int run(int)", "int safeEnd(int)",
        "int change(int)", "boolean keep()", "boolean back()", "int recost(int,int,int)",
        "int reframe(int,int)", "int reserve(int,int)", "long ticks(int,int,int)", "int astray(int,int,int)",
        "int idle(int)", "int size(int)", "int trouble()"};

    public static void main(String[] args) throws IOException {
        face();
        fields();
        nested();
        source();
        CHECK.end();
    }

    private static String told(Method m) {
        StringBuilder s = new StringBuilder(m.getReturnType().getSimpleName());
        s.append(' ').append(m.getName()).append('(');
        for (Class<?> p : m.getParameterTypes()) {
            s.append(s.charAt(s.length() - 1) == '(' ? "" : ",").append(p.getSimpleName());
        }
        return s.append(')').toString();
    }

    private static void face() {
        Set<String> due = new TreeSet<>(Arrays.asList(FACE));
        Set<String> names = new TreeSet<>();
        Set<String> found = new TreeSet<>();
        for (Method m : FrameRound.class.getDeclaredMethods()) {
            if (Modifier.isPublic(m.getModifiers())) {
                found.add(told(m));
                names.add(m.getName());
            } else {
                CHECK.due("private " + m.getName(), Modifier.isPrivate(m.getModifiers()), true);
            }
        }
        CHECK.due("the face is " + found, found.equals(due), true);
        for (Class<?> c : FrameRound.class.getDeclaredClasses()) {
            for (Method m : c.getDeclaredMethods()) {
                CHECK.due("no name of the face in " + c + " " + m, names.contains(m.getName()), false);
            }
        }
        for (Method m : FrameRound.class.getDeclaredMethods()) {
            boolean isPrivate = Modifier.isPrivate(m.getModifiers());
            CHECK.due("no private one with a name of the face: " + m, isPrivate && names.contains(m.getName()), false);
        }
        Constructor<?>[] constructors = FrameRound.class.getDeclaredConstructors();
        CHECK.due("one constructor", constructors.length, 1);
        CHECK.due("a public one", Modifier.isPublic(constructors[0].getModifiers()), true);
        CHECK.due("a final class", Modifier.isFinal(FrameRound.class.getModifiers()), true);
    }

    private static void fields() {
        for (Field f : FrameRound.class.getDeclaredFields()) {
            boolean isFace = f.getName().equals("NONE");
            CHECK.due("visible field " + f, !Modifier.isPrivate(f.getModifiers()), isFace);
            if (Modifier.isStatic(f.getModifiers())) {
                CHECK.due("final static " + f, Modifier.isFinal(f.getModifiers()), true);
            }
        }
    }

    private static void nested() {
        int fields = 0;
        for (Class<?> c : FrameRound.class.getDeclaredClasses()) {
            CHECK.due("static " + c, Modifier.isStatic(c.getModifiers()), true);
            fields = 0;
            for (Field f : c.getDeclaredFields()) {
                fields += Modifier.isStatic(f.getModifiers()) ? 0 : 1;
            }
            CHECK.due("few fields " + c, fields <= 20, true);
            for (Method m : c.getDeclaredMethods()) {
                CHECK.due("few parameters " + m, m.getParameterCount() <= 7, true);
            }
        }
        CHECK.due("few classes", FrameRound.class.getDeclaredClasses().length <= 12, true);
    }

    /** Words that the program must not have; the script that runs the tests says where the project is. */
    private static void source() throws IOException {
        Path home = Path.of(System.getenv().getOrDefault("FRAMEROUND_HOME", "."));
        String text = Files.readString(home.resolve("src/main/java/FrameRound.java"), StandardCharsets.US_ASCII);
        String[] never = {"package ", "catch", "finally", "synchronized", "assert", "->", "::", "Exact", "Float.",
            "Double.", "System.out", "nanoTime", "Random", "getMessage", "instanceof", "+=\"", "@"};
        for (String word : never) {
            CHECK.due("no " + word, text.contains(word), false);
        }
    }
}
