import java.io.IOException;
import java.nio.file.Path;

/**
 * Of each sentence of the document that names a boundary case a case of its own, which names the promise and the sentence.
 * All words of the document's terms and promises must stand in a case's, so that no sentence is left out.
 */
public final class BoundariesTest {
    public static void main(String[] args) throws IOException {
        RowEdges.all();
        TreeEdges.all();
        TextEdges.all();
        WeightEdges.all();
        PositionEdges.all();
        AnswerEdges.all();
        HostEdges.all();
        if (!Edges.allHold(Path.of("../shared/DOC.md"))) {
            System.exit(1);
        }
    }
}
