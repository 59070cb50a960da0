import java.io.IOException;
import java.nio.file.Files;
import java.nio.file.Path;

/**
 * The document's sentences, one test for each that names a boundary case, in its order: the terms in
 * EdgesOfTerms, EdgesOfLoops and EdgesOfTexts, the promises in the other classes named Edges.
 */
public final class EdgesTest {
    private static final Path DOCUMENT = Path.of("../shared/DOC.md");

    public static void main(String[] args) throws IOException {
        Due due = new Due("EdgesTest");
        Edges edges = new Edges(due, Files.readString(DOCUMENT));
        EdgesOfTerms.tell(edges);
        EdgesOfLoops.tell(edges);
        EdgesOfTexts.tell(edges);
        EdgesOfSetUp.tell(edges);
        EdgesOfRunning.tell(edges);
        EdgesOfActs.tell(edges);
        EdgesOfSlots.tell(edges);
        EdgesOfLooking.tell(edges);
        EdgesOfForecasts.tell(edges);
        System.out.println(edges.end() + " sentences have a test of their own");
        due.end();
    }
}
