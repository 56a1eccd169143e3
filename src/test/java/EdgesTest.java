import java.io.IOException;

/** Every sentence of the document that names a boundary case, each with a test of its own. */
final class EdgesTest {
    public static void main(String[] args) throws IOException {
        Edges edges = new Edges();
        TellingEdges.run(edges);
        SeatingEdges.run(edges);
        WeekendEdges.run(edges);
        DeskEdges.run(edges);
        LeaseEdges.run(edges);
        edges.checkThatAllWasAsked();
        edges.end();
    }
}
