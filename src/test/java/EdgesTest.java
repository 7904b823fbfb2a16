/** Each sentence of the document, quoted, with the edges that it names; none may be left without a test. */
public final class EdgesTest {
    private EdgesTest() {
    }

    public static void main(String[] args) {
        OpeningEdges.all();
        TermsEdges.all();
        YardEdges.all();
        GrainEdges.all();
        ComesOfItEdges.all();
        ReadingEdges.all();
        SheetEdges.all();
        DocumentText.dueAllQuoted();
        Check.end("EdgesTest");
    }
}
