import java.io.IOException;

/** Every sentence of the document, promise by promise: each has a test of its own (see Edges). */
public final class EdgesTest {
    public static void main(String[] args) throws IOException {
        Edges e = new Edges();
        new TextEdges(e).all();
        new BlockEdges(e).all();
        new TermEdges(e).all();
        new RowEdges(e).all();
        new PassageEdges(e).all();
        new ValueEdges(e).all();
        new RefusedEdges(e).all();
        e.finish();
    }
}
