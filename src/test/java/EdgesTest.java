import java.io.IOException;

/** Each sentence of the document that names a boundary case, with the last value that is allowed and the first that is not. */
public final class EdgesTest {
    public static void main(String[] args) throws IOException {
        Edges.readDocument();
        EdgesOfTelling.all();
        EdgesOfPacking.all();
        EdgesOfReading.all();
        if (!Edges.isRight()) {
            System.exit(1);
        }
    }
}
