import java.io.IOException;

/** Each sentence of the document that names a boundary case, with a test of its own; and that none is left out. */
public final class BoundariesTest extends Sentences {
    public static void main(String[] args) throws IOException {
        readDocument();
        TenderBoundaries.all();
        SupplyBoundaries.all();
        ChanceBoundaries.all();
        PromiseBoundaries.all();
        everyBoundaryIsQuoted();
        end();
    }
}
