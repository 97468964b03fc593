import java.io.IOException;

/** Each sentence of the document that names a boundary case, with a test of its own. */
public final class EdgesTest {
    public static void main(String[] args) throws IOException {
        TextEdges.all();
        LineEdges.all();
        WayEdges.all();
        HeightEdges.all();
        ChangeEdges.all();
        Edge.compareWithDocument();
        Check.end();
    }
}
