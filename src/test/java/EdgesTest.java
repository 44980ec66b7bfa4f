import java.io.IOException;

/**
 * Promises 1 to 42 and the terms, sentence by sentence: the last that is allowed, the first that is
 * not, and, where a call is refused, that nothing was done. Each answer bears the sentence's words;
 * words of the document that no answer bears are told as a fault.
 */
final class EdgesTest {
    private EdgesTest() {
    }

    public static void main(String[] args) throws IOException {
        Edges edges = new Edges();
        TextEdges.all(edges);
        NowEdges.all(edges);
        ActEdges.all(edges);
        AheadEdges.all(edges);
        DealEdges.all(edges);
        ChanceEdges.all(edges);
        StrangerEdges.all(edges);
        ImageEdges.all(edges);
        edges.end();
    }
}
