/** Each sentence of the document that names a bound, something empty or full, or a refused call, by itself. */
public final class EdgesTest {
    private EdgesTest() { }

    public static void main(String[] args) throws Exception {
        Edges edges = new Edges();
        new TextEdges(edges).run();
        new ActEdges(edges).run();
        new QuestionEdges(edges).run();
        edges.finish();
    }
}
