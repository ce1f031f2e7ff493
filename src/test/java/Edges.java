import java.util.ArrayList;
import java.util.List;

/** Sentences of the document that name a boundary case, each with runs of calls of its own. */
final class Edges {
    /** Each run is a Script on a new object; it fails if the sentence is broken. */
    record Edge(String where, String sentence, String[] runs) {
        String name() {
            return where + ", \"" + sentence + "\"";
        }
    }

    private final List<Edge> all = new ArrayList<>();

    private Edges() {
    }

    static List<Edge> all() {
        Edges edges = new Edges();
        EdgesOfTerms.add(edges);
        EdgesOfParts.add(edges);
        EdgesOfLookUps.add(edges);
        EdgesOfGauges.add(edges);
        EdgesOfCells.add(edges);
        EdgesOfLoss.add(edges);
        EdgesOfKept.add(edges);
        return edges.all;
    }

    /** The sentence, or the part of it that names the boundary, stands in the document as it is told here. */
    void add(String where, String sentence, String... runs) {
        all.add(new Edge(where, sentence, runs));
    }
}
