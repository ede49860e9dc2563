/** Each sentence of the document that names an edge, with a test of its own: promise by promise. */
public final class EdgesTest {
    public static void main(String[] args) {
        TextEdges.all();
        StandEdges.all();
        ActEdges.all();
        ComeEdges.all();
        TellEdges.all();
        ChanceEdges.all();
        KeepEdges.all();
        RefusedEdges.all();
        Edge.allPromisesMet();
        Due.end();
    }
}
