import java.lang.reflect.Constructor;
import java.lang.reflect.Field;
import java.lang.reflect.Method;
import java.lang.reflect.Modifier;
import java.nio.file.Files;
import java.nio.file.Path;
import java.util.Arrays;
import java.util.TreeSet;
import java.util.regex.Matcher;
import java.util.regex.Pattern;

/** 'What it is', 'The public face', what the interface says ahead of calls, and 'Not promised'. */
final class WholeEdges {
    private static final Pattern METHOD = Pattern.compile("public (int|long) (\\w+)\\(([^)]*)\\);");
    private static final Pattern CONSTANT = Pattern.compile("(\\w+) = ([-\\w.]+)[,;]");
    private static final Pattern AHEAD =
        Pattern.compile("Ahead of the calls ([^.]*) the interface says: (---- \\d [a-z, ]+)\\.");

    private final Sentences s;

    WholeEdges(Sentences s) {
        this.s = s;
    }

    void all() throws Exception {
        whatAPlateIs();
        whatPushesAre();
        whatCanBeAsked();
        classLine();
        constants();
        constructor();
        methods();
        nothingElseIsOpen();
        ahead();
        notPromised();
    }

    // Squares 0 1 2 3, 4 5 6 7, 8 9 10 11.
    private static PlatePeas example() {
        return Due.laid("p34;oo.m;.g..;..o.;f1;s2");
    }

    private void whatAPlateIs() {
        s.whatItIs("Peas round the plate: squares with gravy and mash, peas on them, eaters of kinds with a force, "
            + "all told in a text;");
        PlatePeas x = example();
        s.due(x, 12, "many", 0);
        s.due(x, 1, "sign", 5);
        s.due(x, 2, "sign", 3);
        s.due(x, 0, "where", 0);
        s.due(x, 10, "where", 2);
        s.due(x, 0, "ofEater", 0, 0);
        s.due(x, 1, "ofEater", 0, 2);
        s.due(x, 2, "ofEater", 1, 0);
        s.due(x, 6, "ofEater", 1, 2);
    }

    private void whatPushesAre() {
        s.whatItIs("a pea that is pushed rolls, stops, strikes the next one, which goes on, comes back from the rim, "
            + "or falls off, by a law;");
        PlatePeas x = example();
        s.due(x, 0, "push", 1, 0, 1);
        s.due(x, 0, "where", 0);
        s.due(x, 2, "where", 1);
        // To 9 and 8, where it turns round, and back over 9 and 10 to 11.
        s.due(x, 1, "push", 1, 2, 3);
        s.due(x, 11, "where", 2);
        s.due(x, 0, "law", 1);
        s.due(x, PlatePeas.NONE, "where", 2);
        s.due(x, 4, "peas", 1);
        s.whatItIs("one that can't give way is had;");
        s.due(x, 2, "push", 0, 1, 1);
        s.due(x, PlatePeas.NONE, "where", 1);
        s.due(x, 2, "peas", 0);
        s.whatItIs("pushes one behind another, taken back;");
        s.due(x, 1, "undo", 2);
        s.due(x, 10, "where", 2);
        s.due(x, 2, "where", 1);
        s.due(x, 0, "undo", 1);
        s.due(x, 1, "where", 1);
    }

    private void whatCanBeAsked() {
        PlatePeas x = example();
        x.push(1, 0, 1);
        s.whatItIs("what a push would do;");
        s.due(x, 1, "would", 0, 0, 1, 0);
        s.whatItIs("the fewest pushes by which one is had, the most that are had by some;");
        s.due(x, 2, "fewest", 0, -1);
        s.due(x, 1, "fewest", 0, 0);
        s.due(x, 1, "fewest", 0, 1);
        s.due(x, 2, "most", 3);
        s.whatItIs("where a wall helps;");
        s.due(x, 4, "wall", 0, 0, 2);
        s.whatItIs("rows of pushes that are told;");
        Due.write(x, 0, 1, 1, 1, 11);
        s.due(x, 2, "row", 0, 1, 0, 3);
        s.whatItIs("odds, if one pushes anyhow;");
        s.due(x, 1, "odds", 0, 1, 0);
        s.due(x, 4, "odds", 0, 1, 1);
        s.whatItIs("which push it was, by which law, by where peas were seen.");
        s.due(x, 0, "reading", 0, -9);
        s.due(x, 0, "last", -1);
        s.due(x, 0, "law", 1);
        s.due(x, 6, "last", -1);
        s.due(x, 102, "last", 3);
        // The spoon pushes pea 1 to the left, which strikes pea 0.
        s.due(x, 113, "last", 5);
        s.due(x, 1, "push", 1, 0, 2);
        s.due(x, 2, "laws");
    }

    // ---- the public face

    private void classLine() {
        s.face("public final class PlatePeas {");
        s.is("its modifiers", PlatePeas.class.getModifiers(), Modifier.PUBLIC | Modifier.FINAL);
        s.is("no package", PlatePeas.class.getPackageName().length(), 0);
    }

    private void constants() throws Exception {
        s.face("public static final int UNKNOWN = -1, OUTSIDE = -2, STATE = -3, FULL = -4, NONE = -9;");
        s.is("so many open constants", constantsOf("int"), 5);
        s.face("public static final long LOST = Long.MIN_VALUE;");
        s.is("so many open constants", constantsOf("long"), 1);
        s.is("LOST", PlatePeas.LOST, Long.MIN_VALUE);
    }

    /** Looks up each constant that the document tells of a type: how many. */
    private int constantsOf(String type) throws Exception {
        Matcher line = Pattern.compile("public static final " + type + " [^;]*;").matcher(s.said("The public face"));
        s.is("the document has a line of them", line.find() ? 1 : 0, 1);
        Matcher told = CONSTANT.matcher(line.group());
        int count = 0;
        while (told.find()) {
            Field field = PlatePeas.class.getDeclaredField(told.group(1));
            s.is(field + "'s type", field.getType().toString().equals(type) ? 1 : 0, 1);
            s.is(field + "'s modifiers", field.getModifiers(), Modifier.PUBLIC | Modifier.STATIC | Modifier.FINAL);
            long want = told.group(2).equals("Long.MIN_VALUE") ? Long.MIN_VALUE : Long.parseLong(told.group(2));
            s.is(field + "", field.getLong(null), want);
            count++;
        }
        return count;
    }

    private void constructor() {
        s.face("public PlatePeas();");
        Constructor<?>[] all = PlatePeas.class.getDeclaredConstructors();
        s.is("constructors", all.length, 1);
        s.is("its parameters", all[0].getParameterCount(), 0);
        s.is("its modifiers", all[0].getModifiers(), Modifier.PUBLIC);
    }

    private void methods() throws Exception {
        Matcher told = METHOD.matcher(s.said("The public face"));
        String promises = promises();
        int count = 0;
        while (told.find()) {
            s.face(told.group());
            count++;
            String[] parameters = told.group(3).isEmpty() ? new String[0] : told.group(3).split(", ");
            Class<?>[] types = new Class<?>[parameters.length];
            for (int i = 0; i < types.length; i++) {
                s.is("an int: " + parameters[i], parameters[i].startsWith("int ") ? 1 : 0, 1);
                types[i] = int.class;
            }
            Method method = PlatePeas.class.getDeclaredMethod(told.group(2), types);
            s.is("answers " + told.group(1), method.getReturnType().toString().equals(told.group(1)) ? 1 : 0, 1);
            s.is("its modifiers", method.getModifiers(), Modifier.PUBLIC);
            s.is("what it may throw", method.getExceptionTypes().length, 0);
            String promised = "`" + told.group().substring("public ".length(), told.group().length() - 1) + "`: ";
            s.is("a promise is of it", promises.contains("\n" + promised) ? 1 : 0, 1);
        }
        s.is("methods of the face", count, 31);
    }

    private static String promises() throws Exception {
        return Files.readString(Path.of("../shared/DOC.md"));
    }

    private void nothingElseIsOpen() {
        s.face("}");
        TreeSet<String> open = new TreeSet<>();
        for (Method m : PlatePeas.class.getDeclaredMethods()) {
            if (!Modifier.isPrivate(m.getModifiers()) && !m.isSynthetic()) {
                open.add(m.getName());
            }
        }
        s.is("open methods, each of a name of its own: " + open, open.size(), 31);
        int methods = 0;
        for (Method m : PlatePeas.class.getDeclaredMethods()) {
            methods += Modifier.isPrivate(m.getModifiers()) || m.isSynthetic() ? 0 : 1;
        }
        s.is("open methods", methods, 31);
        int fields = 0;
        for (Field f : PlatePeas.class.getDeclaredFields()) {
            fields += Modifier.isPrivate(f.getModifiers()) ? 0 : 1;
        }
        s.is("open fields", fields, 6);
        s.is("kinds above it", PlatePeas.class.getSuperclass() == Object.class ? 1 : 0, 1);
        s.is("interfaces", PlatePeas.class.getInterfaces().length, 0);
    }

    /** The calls stand in the program in the document's order, those of a part behind what the interface says there. */
    private void ahead() throws Exception {
        String source = Files.readString(Path.of("src/main/java/PlatePeas.java"));
        Matcher told = AHEAD.matcher(s.said("Ahead of the calls"));
        int at = 0;
        int parts = 0;
        while (told.find()) {
            s.ahead(told.group());
            parts++;
            int comes = source.indexOf("    // " + told.group(2) + "\n");
            s.is("it stands behind the part ahead of it", comes > at ? 1 : 0, 1);
            at = Math.max(at, comes);
            for (String name : told.group(1).replace("`", "").split(", ")) {
                Matcher head = Pattern.compile("    public (int|long) " + name + "\\(").matcher(source);
                s.is(name + " is in the program", head.find() ? 1 : 0, 1);
                s.is(name + " stands behind the one ahead of it", head.start() > at ? 1 : 0, 1);
                at = head.start();
            }
        }
        s.is("parts", parts, 5);
    }

    // ---- what is not promised

    private void notPromised() throws Exception {
        s.notPromised("How the state is held inside the object is free, as are the speed of each call, the text of "
            + "toString and the behaviour of equals and hashCode.");
        TreeSet<String> own = new TreeSet<>();
        Arrays.stream(PlatePeas.class.getDeclaredMethods()).forEach(m -> own.add(m.getName()));
        s.is("toString of its own", own.contains("toString") ? 1 : 0, 0);
        s.is("equals of its own", own.contains("equals") ? 1 : 0, 0);
        s.is("hashCode of its own", own.contains("hashCode") ? 1 : 0, 0);
        s.notPromised("Use of one object from several threads at once is not promised to be safe.");
        eachThreadItsOwn();
        s.notPromised("Nothing is promised beyond the answers and state changes described above, and nothing about an "
            + "object after its 512th call.");
        beyond();
    }

    /** Objects share nothing, so each thread may use one of its own. */
    private void eachThreadItsOwn() throws Exception {
        long[] answers = new long[8];
        Thread[] threads = new Thread[answers.length];
        for (int t = 0; t < threads.length; t++) {
            int own = t;
            threads[t] = new Thread(() -> answers[own] = usedAlone(own % 3));
            threads[t].start();
        }
        for (Thread thread : threads) {
            thread.join();
        }
        for (int t = 0; t < threads.length; t++) {
            s.is("thread " + t, answers[t], usedAlone(t % 3));
        }
    }

    private static long usedAlone(int law) {
        PlatePeas x = example();
        x.law(law);
        long answers = 0;
        for (int k = 0; k < 30; k++) {
            x.push(k % 2, k % 3, k % 4);
            x.tell(k % 2);
            answers = 31 * answers + x.where(0) + 7 * x.where(1) + 11 * x.where(2) + x.fewest(k % 3, -1) + x.trace();
        }
        return answers;
    }

    /** What later calls answer is free, but LANGUAGE.md has no call throw or fail to end. */
    private void beyond() {
        PlatePeas x = example();
        int calls = 0;
        for (int k = 0; k < 5000; k++) {
            x.push(k % 2, k % 3, k % 4);
            x.reading(k % 3, k % 12);
            x.tell(1);
            calls++;
        }
        s.is("calls that came back", calls, 5000);
    }
}
