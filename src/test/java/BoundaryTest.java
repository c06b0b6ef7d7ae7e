import java.io.IOException;

/**
 * Each sentence of the document that names a boundary has a test of its own, which names its promise
 * (src/test/boundary). Every word of the terms and promises must be quoted by one of them.
 */
public final class BoundaryTest {
    private BoundaryTest() {
    }

    public static void main(String[] args) throws IOException {
        Sentences s = new Sentences();
        PersonEdges.run(s);
        BenchEdges.run(s);
        SeatingEdges.run(s);
        WorthEdges.run(s);
        TextEdges.run(s);
        SheetEdges.run(s);
        ImageEdges.run(s);
        if (s.report() != 0) {
            System.exit(1);
        }
    }
}
