/** Every sentence of the document that names an edge, each with a test of its own. */
public final class EdgesTest {
    public static void main(String[] args) {
        Edges edges = new Edges();
        new EdgeTerms(edges).run();
        new EdgeRows(edges).run();
        new EdgeTexts(edges).run();
        new EdgeActs(edges).run();
        new EdgeForetold(edges).run();
        new EdgeSaid(edges).run();
        new EdgeAsked(edges).run();
        edges.end();
    }
}
