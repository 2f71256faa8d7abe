import java.io.IOException;

/**
 * The boundary cases: for each sentence of the document that names one (too small, too large, empty,
 * full, a wrap-around, a refused call) a test of its own, which begins with that sentence.
 */
public final class EdgesTest {
    public static void main(String[] args) throws IOException {
        Sentences sentences = new Sentences("EdgesTest");
        new WholeEdges(sentences).all();
        new UseEdges(sentences).all();
        new TaskEdges(sentences).all();
        new OrderEdges(sentences).all();
        new TieEdges(sentences).all();
        new BundleEdges(sentences).all();
        new UndoEdges(sentences).all();
        new CountEdges(sentences).all();
        new TimeEdges(sentences).all();
        new PlanEdges(sentences).all();
        sentences.end();
    }
}
