import java.io.IOException;
import java.nio.file.Path;

/**
 * The document read from its first sentence to its last: each one that names a limit, something
 * empty or full, or a refused call has a test of its own, told in the document's own words.
 */
public final class EdgesTest {
    private EdgesTest() {
    }

    public static void main(String[] args) throws IOException {
        Edges doc = new Edges(Path.of(args.length > 0 ? args[0] : ".", "../shared/DOC.md"));
        LandEdges.tell(doc);
        CoatEdges.tell(doc);
        LeadEdges.tell(doc);
        TapeEdges.tell(doc);
        ActEdges.tell(doc);
        AskEdges.tell(doc);
        doc.nothingIsLeft();
        Check.finish();
    }
}
