import java.io.IOException;

/** Each sentence of the document that names an edge, by the promise that it stands in or serves. */
public final class EdgesTest {
    private EdgesTest() {
    }

    public static void main(String[] args) throws IOException {
        Edges edges = new Edges();
        new EditionEdges(edges).all();
        new TextEdges(edges).all();
        new OperatorEdges(edges).all();
        new ShelfEdges(edges).all();
        new AnswerEdges(edges).all();
        new WhyEdges(edges).all();
        edges.end();
    }
}
