/** The document sentence by sentence: each that names a boundary case has checks of its own, behind its words. */
public final class EdgeTest {
    private EdgeTest() { }

    public static void main(String[] args) {
        TextEdges.run();
        TapeEdges.run();
        ActEdges.run();
        AskEdges.run();
        GuessEdges.run();
        LaterEdges.run();
        Edge.end();
        Check.end("EdgeTest");
    }
}
