import java.lang.reflect.Field;
import java.lang.reflect.Member;
import java.lang.reflect.Method;
import java.lang.reflect.Modifier;
import java.nio.file.Files;
import java.nio.file.Path;
import java.util.ArrayList;
import java.util.Arrays;
import java.util.List;
import java.util.TreeSet;
import java.util.regex.Pattern;

/** The document's public face, and rules of LANGUAGE.md that can be looked at. */
public final class FaceTest {
    private static final Due DUE = new Due("FaceTest");
    private static final String[] FACE = {"int plate 4", "int sign 1", "int set 2", "int ofEater 2", "int law 1",
        "int push 3", "int undo 1", "int where 1", "int peas 1", "int would 4", "int fewest 2", "int most 1",
        "int wall 3", "int row 4", "long odds 3", "int reading 2", "int back 1", "int last 1", "int laws 0",
        "int never 0", "int sheet 3", "int lose 1", "int put 3", "long cell 3", "int copy 5", "int tell 1",
        "int polish 1", "int as 2", "int trace 0", "int fault 0", "int many 1"};

    public static void main(String[] args) throws Exception {
        constants();
        face();
        classesInside();
        forbiddenWords();
        room();
        DUE.end();
    }

    private static void constants() {
        DUE.is("UNKNOWN", PlatePeas.UNKNOWN, -1);
        DUE.is("OUTSIDE", PlatePeas.OUTSIDE, -2);
        DUE.is("STATE", PlatePeas.STATE, -3);
        DUE.is("FULL", PlatePeas.FULL, -4);
        DUE.is("NONE", PlatePeas.NONE, -9);
        DUE.is("LOST", PlatePeas.LOST, Long.MIN_VALUE);
    }

    private static void face() {
        TreeSet<String> open = new TreeSet<>();
        TreeSet<String> hidden = new TreeSet<>();
        for (Method m : PlatePeas.class.getDeclaredMethods()) {
            String told = m.getReturnType() + " " + m.getName() + " " + m.getParameterCount();
            (Modifier.isPrivate(m.getModifiers()) ? hidden : open).add(Modifier.isPrivate(m.getModifiers())
                ? m.getName() : told);
            for (Class<?> type : Modifier.isPrivate(m.getModifiers()) ? new Class<?>[0] : m.getParameterTypes()) {
                DUE.is("an int parameter of " + told, type == int.class ? 1 : 0, 1);
            }
        }
        DUE.is("methods " + open, open.equals(new TreeSet<>(Arrays.asList(FACE))) ? 1 : 0, 1);
        for (String told : FACE) {
            DUE.is("a private " + told, hidden.contains(told.split(" ")[1]) ? 1 : 0, 0);
        }
        int openFields = 0;
        for (Field f : PlatePeas.class.getDeclaredFields()) {
            openFields += Modifier.isPrivate(f.getModifiers()) ? 0 : 1;
        }
        DUE.is("open fields", openFields, 6);
        DUE.is("constructors", PlatePeas.class.getDeclaredConstructors().length, 1);
        DUE.is("final", Modifier.isFinal(PlatePeas.class.getModifiers()) ? 1 : 0, 1);
    }

    private static void classesInside() {
        List<Class<?>> all = new ArrayList<>(Arrays.asList(PlatePeas.class.getDeclaredClasses()));
        DUE.is("at most some twelve classes", all.size() < 12 ? 1 : 0, 1);
        for (Class<?> inside : all) {
            DUE.is("static " + inside, Modifier.isStatic(inside.getModifiers()) ? 1 : 0, 1);
            DUE.is("not public " + inside, Modifier.isPublic(inside.getModifiers()) ? 1 : 0, 0);
        }
        all.add(PlatePeas.class);
        for (Class<?> c : all) {
            int fields = 0;
            for (Field f : c.getDeclaredFields()) {
                boolean isStatic = Modifier.isStatic(((Member) f).getModifiers());
                fields += isStatic ? 0 : 1;
                DUE.is("static and not final: " + f,
                    isStatic && !Modifier.isFinal(f.getModifiers()) ? 1 : 0, 0);
            }
            DUE.is("at most twenty fields: " + c, fields <= 20 ? 1 : 0, 1);
        }
    }

    private static void forbiddenWords() throws Exception {
        String source = Files.readString(Path.of("src/main/java/PlatePeas.java"));
        String code = source.replaceAll("(?s)/\\*.*?\\*/", "").replaceAll("//.*", "");
        String[] words = {"\\bthrow\\b", "\\bthrows\\b", "\\btry\\b", "\\bcatch\\b", "\\bsynchronized\\b",
            "\\bassert\\b", "->", "::", "@", "\\bpackage\\b", "\\bObject\\b", "\\bMap\\b", "Exact\\b", "\\bequals\\b",
            "\\bhashCode\\b", "\\btoString\\b", "\\bvar\\b", "System\\.(?!arraycopy)", "\\bstatic \\{"};
        for (String word : words) {
            DUE.is("not in the program: " + word, Pattern.compile(word).matcher(code).find() ? 1 : 0, 0);
        }
        DUE.is("signs 1 to 127", source.chars().allMatch(c -> c > 0 && c < 128) ? 1 : 0, 1);
    }

    /** The dearest calls make nothing: what an object takes does not hang on how often it is asked. */
    private static void room() {
        com.sun.management.ThreadMXBean threads =
            (com.sun.management.ThreadMXBean) java.lang.management.ManagementFactory.getThreadMXBean();
        PlatePeas x = Due.laid("p56;o....o;......;..oo..;......;o.....;s4;k2");
        dearCalls(x);
        long before = threads.getCurrentThreadAllocatedBytes();
        dearCalls(x);
        long taken = threads.getCurrentThreadAllocatedBytes() - before;
        DUE.is("bytes taken, below 10,000: " + taken, taken < 10_000 ? 1 : 0, 1);
    }

    private static void dearCalls(PlatePeas x) {
        for (int k = 0; k < 100; k++) {
            x.push(k % 2, k % 5, k % 4);
            x.fewest(k % 5, -1);
            x.most(3);
            x.never();
            x.last(-1);
        }
    }
}
