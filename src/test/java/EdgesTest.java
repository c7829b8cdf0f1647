import java.nio.file.Path;

/** Every sentence of the document, from its first line to its last, each with a test of its own that names its words. */
public final class EdgesTest {
    public static void main(String[] args) throws Exception {
        Due due = new Due("EdgesTest");
        Sentences sentences = new Sentences(due, Path.of("../shared/DOC.md"));
        new WholeEdges(sentences).all();
        new TermsEdges(sentences).all();
        new PlateEdges(sentences).all();
        new PushEdges(sentences).all();
        new SearchEdges(sentences).all();
        new SeenEdges(sentences).all();
        new SheetEdges(sentences).all();
        new PartsEdges(sentences).all();
        sentences.end();
        due.end();
    }
}
