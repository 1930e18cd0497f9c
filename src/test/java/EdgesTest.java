/**
 * Boundary cases of all promises: each check quotes the words of the document that ask for it. At the end no words of the
 * Terms and of the promises may be left that none has quoted, and no refusal or fault of a promise that none has met.
 */
public final class EdgesTest {
    private EdgesTest() {
    }

    public static void main(String[] args) throws Exception {
        Edges edges = new Edges(Document.read());
        new BayEdges(edges).all();
        new HoursEdges(edges).all();
        new PlanEdges(edges).all();
        new ToComeEdges(edges).all();
        new ReadingsEdges(edges).all();
        new SheetsEdges(edges).all();
        new PartsEdges(edges).all();
        edges.end();
    }
}
