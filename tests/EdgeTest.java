import java.io.IOException;

/** Each sentence of the document that names a boundary case, by itself; the sentences stand in tests/edges. */
public final class EdgeTest {
    public static void main(String[] args) throws IOException {
        Edge edge = new Edge("../shared/DOC.md");
        new TermsEdges(edge).test();
        new TextEdges(edge).test();
        new PlayEdges(edge).test();
        new RefusalEdges(edge).test();
        new RingEdges(edge).test();
        new RoundEdges(edge).test();
        new BestEdges(edge).test();
        new StoryEdges(edge).test();
        new LotsEdges(edge).test();
        new HostEdges(edge).test();
        edge.end();
    }
}
