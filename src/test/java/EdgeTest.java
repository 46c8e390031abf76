/** Each sentence of the document that names a boundary case has a test of its own. */
public final class EdgeTest {
    private EdgeTest() {
    }

    public static void main(String[] args) {
        TextEdges.run();
        ChainEdges.run();
        ActEdges.run();
        AskEdges.run();
        SeenEdges.run();
        Check.finish("EdgeTest");
    }
}
