/** Each sentence of the document that names a boundary case, by a test of its own, worked out by hand. */
public final class EdgeTest {
    public static void main(String[] args) throws Exception {
        TermEdges.all();
        CallEdges.all();
        TableEdges.all();
        FormEdges.all();
        DirectionEdges.all();
        BreakEdges.all();
        SearchEdges.all();
        OutEdges.all();
        GrammarEdges.all();
        Said.covers();
        Due.end();
    }
}
