import java.io.IOException;

/** A test of its own for each sentence of the document that names a boundary case, and that none is without one. */
public final class EdgeTest {
    private EdgeTest() {
    }

    public static void main(String[] args) throws IOException {
        Edges e = new Edges();
        BayEdges.all(e);
        TextEdges.all(e);
        BoatEdges.all(e);
        NightEdges.all(e);
        DropEdges.all(e);
        NextEdges.all(e);
        FormEdges.all(e);
        LookEdges.all(e);
        GustEdges.all(e);
        HostEdges.all(e);
        RefusalEdges.all(e);
        e.end();
    }
}
