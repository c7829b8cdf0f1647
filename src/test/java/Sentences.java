import java.nio.file.Files;
import java.nio.file.Path;
import java.util.LinkedHashMap;
import java.util.List;
import java.util.Map;
import java.util.function.Supplier;

/**
 * The document's sentences. A test of an edge begins with the words that it holds to: they must stand in the
 * document, and at the end no word from its first line to its last may be left that no test has named.
 */
final class Sentences {
    private static final List<String> NAMING_FAULTS = List.of("plate", "row", "sheet", "put", "cell", "copy", "as");
    private static final List<String> OF_LONG = List.of("cell", "odds");

    private final Due due;
    private final Map<String, String> sections = new LinkedHashMap<>();
    private final Map<String, boolean[]> named = new LinkedHashMap<>();
    private String heading = "";
    private int asked = 1;

    Sentences(Due due, Path document) throws Exception {
        this.due = due;
        String section = "";
        for (String line : Files.readAllLines(document)) {
            section = sectionOf(line, section);
            if (!section.isEmpty() && !line.startsWith("#") && !line.startsWith("```")) {
                sections.merge(section, wordsOf(line), (were, more) -> were + " " + more);
            }
        }
        sections.forEach((name, words) -> named.put(name, new boolean[words.length()]));
    }

    private static String sectionOf(String line, String before) {
        if (line.startsWith("An object is used for")) {
            return "Use";
        }
        if (line.startsWith("==== ")) {
            return "Part " + line.charAt(5);
        }
        if (line.startsWith("## Promise ")) {
            return line.substring(3, line.indexOf(':'));
        }
        if (line.startsWith("Ahead of the calls")) {
            return "Ahead of the calls";
        }
        return line.startsWith("## ") ? line.substring(3) : before;
    }

    /** What a section says, its lines joined by blanks. */
    String said(String section) {
        return sections.getOrDefault(section, "");
    }

    /** A line without the numbers of parts and without what the face says already. */
    private static String wordsOf(String line) {
        return line.strip().replaceFirst("^==== \\d ", "").replaceFirst("^`[^`]*`: ", "");
    }

    void whatItIs(String words) {
        begin("What it is", words);
    }

    void face(String words) {
        begin("The public face", words);
    }

    void ahead(String words) {
        begin("Ahead of the calls", words);
    }

    void notPromised(String words) {
        begin("Not promised", words);
    }

    void use(String words) {
        begin("Use", words);
    }

    void terms(String words) {
        begin("Terms", words);
    }

    void part(int number, String words) {
        begin("Part " + number, words);
    }

    void promise(int number, String words) {
        begin("Promise " + number, words);
    }

    private void closeTest() {
        due.is(heading + ": it is tested", asked > 0 ? 1 : 0, 1);
        asked = 0;
    }

    private void begin(String section, String words) {
        closeTest();
        heading = section + ", '" + words + "'";
        String all = said(section);
        due.is(heading + ": the document says so", all.contains(words) ? 1 : 0, 1);
        for (int at = all.indexOf(words); at >= 0; at = all.indexOf(words, at + 1)) {
            for (int i = 0; i < words.length(); i++) {
                named.get(section)[at + i] = true;
            }
        }
    }

    void is(String what, long got, long want) {
        asked++;
        due.is(heading + ": " + what, got, want);
    }

    /** A call and the answer that is due. */
    void due(PlatePeas x, long want, String name, int... a) {
        is(Calls.told(name, a), Calls.of(x, name, a), want);
    }

    /** A call that is refused: it changes nothing, but the fault, if it names any. */
    void refused(Supplier<PlatePeas> object, int refusal, String name, int... a) {
        long want = OF_LONG.contains(name) ? PlatePeas.LOST : refusal;
        changesNothing(object, want, NAMING_FAULTS.contains(name) ? 0 : States.FAULT, name, a);
    }

    /** A call that comes to a fault: it changes nothing else. */
    void fails(Supplier<PlatePeas> object, int fault, String name, int... a) {
        changesNothing(object, OF_LONG.contains(name) ? PlatePeas.LOST : -10 - fault, fault, name, a);
    }

    /** A call that only asks. */
    void asks(Supplier<PlatePeas> object, long want, String name, int... a) {
        changesNothing(object, want, NAMING_FAULTS.contains(name) ? 0 : States.FAULT, name, a);
    }

    private void changesNothing(Supplier<PlatePeas> object, long want, int fault, String name, int... a) {
        PlatePeas x = object.get();
        due(x, want, name, a);
        is("the fault behind " + Calls.told(name, a), x.fault(), fault);
        is(Calls.told(name, a) + " changes nothing", States.told(x).equals(States.told(object.get())) ? 1 : 0, 1);
    }

    void end() {
        closeTest();
        sections.forEach((section, words) -> {
            StringBuilder left = new StringBuilder();
            for (int i = 0; i < words.length(); i++) {
                left.append(named.get(section)[i] ? ' ' : words.charAt(i));
            }
            String unnamed = left.toString().replaceAll("\\s+", " ").strip();
            due.is(section + ": words that no test names: " + unnamed, unnamed.matches(".*[A-Za-z0-9].*") ? 1 : 0, 0);
        });
        due.is("what it is, use, face, terms, 5 parts, what is ahead of calls, 32 promises, what is not promised",
            sections.size(), 43);
    }
}
