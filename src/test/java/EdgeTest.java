import java.io.IOException;

/** Every sentence of the document that names an edge, by a test of its own. */
public final class EdgeTest {
    private EdgeTest() {
    }

    public static void main(String[] args) throws IOException {
        Edges edges = new Edges();
        new EdgeOfText(edges).all();
        new EdgeOfDays(edges).all();
        new EdgeOfLater(edges).all();
        new EdgeOfWays(edges).all();
        new EdgeOfChance(edges).all();
        new EdgeOfState(edges).all();
        new EdgeOfCalls(edges).all();
        edges.end("EdgeTest");
    }
}
