import java.lang.reflect.Method;
import java.net.URL;
import java.net.URLClassLoader;
import java.nio.file.Files;
import java.nio.file.Path;
import java.util.TreeSet;
import java.util.regex.Matcher;
import java.util.regex.Pattern;
import javax.tools.ToolProvider;

/** What README.md shows: its lines of Java are compiled and run, and each call must give the answer that is shown. */
public final class ReadmeTest {
    private static final Due DUE = new Due("ReadmeTest");
    private static final Pattern BLOCK = Pattern.compile("(?s)```java\n(.*?)```");
    private static final Pattern CALL = Pattern.compile("^\\s*x\\.(\\w+)\\((.*)\\);\\s*(// *(-?\\d+|[A-Z]+)\\b.*)?$");

    public static void main(String[] args) throws Exception {
        TreeSet<String> shown = new TreeSet<>();
        StringBuilder body = new StringBuilder();
        Matcher blocks = BLOCK.matcher(Files.readString(Path.of("README.md")));
        while (blocks.find()) {
            for (String line : blocks.group(1).split("\n")) {
                body.append(asked(line, shown)).append('\n');
            }
        }
        run(body.toString());
        for (Method m : PlatePeas.class.getMethods()) {
            if (m.getDeclaringClass() == PlatePeas.class) {
                DUE.is("README.md shows " + m.getName(), shown.contains(m.getName()) ? 1 : 0, 1);
            }
        }
        DUE.end();
    }

    /** A line of the README that shows a call, as one that asks whether its answer is so. */
    private static String asked(String line, TreeSet<String> shown) {
        Matcher call = CALL.matcher(line);
        if (!call.matches()) {
            return line;
        }
        DUE.is("an answer is shown behind" + line, call.group(3) == null ? 0 : 1, 1);
        if (call.group(3) == null) {
            return line;
        }
        shown.add(call.group(1));
        String told = call.group(1) + "(" + call.group(2) + ")";
        String answer = call.group(4);
        String want = answer.matches("[A-Z]+") ? "PlatePeas." + answer : answer + "L";
        return "ReadmeTest.is(\"" + told.replace("\"", "\\\"") + "\", x." + told + ", " + want + ");";
    }

    /** The lines that are made of README.md call this. */
    public static void is(String call, long got, long want) {
        DUE.is(call, got, want);
    }

    private static void run(String body) throws Exception {
        Path dir = Files.createTempDirectory("readme");
        Path file = dir.resolve("ReadmeLines.java");
        Files.writeString(file, "public class ReadmeLines { public static void run() {\n" + body + "}}\n");
        String classes = System.getProperty("java.class.path");
        int compiled = ToolProvider.getSystemJavaCompiler().run(null, null, null, "-cp", classes, "-d", dir.toString(),
            file.toString());
        DUE.is("README.md's lines are compiled", compiled, 0);
        if (compiled == 0) {
            try (URLClassLoader loader = new URLClassLoader(new URL[] {dir.toUri().toURL()})) {
                loader.loadClass("ReadmeLines").getMethod("run").invoke(null);
            }
        }
        try (var made = Files.list(dir)) {
            made.forEach(path -> path.toFile().delete());
        }
        Files.delete(dir);
    }
}
