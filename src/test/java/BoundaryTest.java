import java.io.IOException;
import java.nio.file.Path;

/**
 * For each sentence of ../shared/DOC.md that names a boundary case a test that names the sentence and its promise.
 * What is due is told by the document's words; where that takes a sum, the sum stands beside it.
 */
public final class BoundaryTest {
    public static void main(String[] args) throws IOException {
        Due.readDocument(Path.of("../shared/DOC.md"));
        TextBoundaries.all();
        CaptionBoundaries.all();
        BallotBoundaries.all();
        OrderBoundaries.all();
        PrizeBoundaries.all();
        HistoryBoundaries.all();
        if (!Due.end()) {
            System.exit(1);
        }
    }
}
