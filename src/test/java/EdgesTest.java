/** Every sentence of the document that names an edge, quoted, with what is due at that edge. */
public final class EdgesTest {
    public static void main(String[] args) {
        Edges due = new Edges();
        new TermsEdges(due).all();
        new DomeEdges(due).all();
        new RibEdges(due).all();
        new NetEdges(due).all();
        new NetCallsEdges(due).all();
        new SkinEdges(due).all();
        new SightsEdges(due).all();
        new SheetsEdges(due).all();
        due.end();
    }
}
