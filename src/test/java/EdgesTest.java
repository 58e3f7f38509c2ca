import java.io.IOException;

/** Each sentence of the document that names an edge, in groups; what no group quotes is told. */
final class EdgesTest {
    public static void main(String[] args) throws IOException {
        Edges edges = new Edges();
        new EdgesOfRefusals(edges).run();
        new EdgesOfSheets(edges).run();
        new EdgesOfTexts(edges).run();
        new EdgesOfHills(edges).run();
        new EdgesOfStories(edges).run();
        new EdgesOfRows(edges).run();
        new EdgesOfDates(edges).run();
        new EdgesOfAsks(edges).run();
        edges.end();
    }
}
