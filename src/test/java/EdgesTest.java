/** The edges that the document names, promise by promise: the last that is allowed, the first that is not. */
public final class EdgesTest {
    private EdgesTest() {
    }

    public static void main(String[] args) {
        Edge.run(TextEdges.class, RoundEdges.class, WordEdges.class, LinkEdges.class, TrialEdges.class);
    }
}
