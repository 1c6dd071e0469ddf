/** Every sentence of the document by itself: what it says, and above all its edges. */
public final class SentencesTest {
    private SentencesTest() { }

    public static void main(String[] args) throws java.io.IOException {
        Sentences.open();
        FaceEdges.run();
        TextEdges.run();
        CoverEdges.run();
        FeatureEdges.run();
        TapeEdges.run();
        ClauseEdges.run();
        PairEdges.run();
        OrderEdges.run();
        SearchEdges.run();
        BackEdges.run();
        if (Sentences.close() != 0) System.exit(1);
    }
}
