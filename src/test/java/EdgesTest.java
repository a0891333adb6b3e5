import java.io.IOException;
import java.nio.file.Path;

/**
 * Each sentence of the document that names a boundary case, with a test of its own: those of the Terms, and of
 * promises 1 to 34. Run from the project's root; it fails, too, if a sentence of ../shared/DOC.md has no test.
 */
public final class EdgesTest {
    private EdgesTest() {
    }

    public static void main(String[] args) throws IOException {
        Due due = new Due("EdgesTest");
        Sentences s = new Sentences(due, Path.of("../shared/DOC.md"));
        TermsEdges.run(s);
        RowsEdges.run(s);
        TapeEdges.run(s);
        ActsEdges.run(s);
        ForetoldEdges.run(s);
        AskedEdges.run(s);
        s.end();
        due.end();
    }
}
