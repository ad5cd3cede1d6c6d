/** Each sentence of the document that names an edge, by a test of its own: at the edge and just beside it. */
public final class EdgeTest {
    public static void main(String[] args) throws java.io.IOException {
        Check check = new Check("EdgeTest");
        Sentences edges = new Sentences(check);
        new BookEdges(edges).ask();
        new TextEdges(edges).ask();
        new SlipEdges(edges).ask();
        new PairEdges(edges).ask();
        new AnswerEdges(edges).ask();
        new OtherBookEdges(edges).ask();
        new RefusalEdges(edges).ask();
        edges.finish();
        check.finish();
    }
}
