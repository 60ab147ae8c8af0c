import java.util.LinkedHashMap;
import java.util.Map;

/** One test for each sentence of the document that names a boundary case. */
public final class EdgeTest {
    static final int PROMISES = 30;

    private EdgeTest() {
    }

    /** The edges of one promise by their names. */
    static Map<String, Edge> of(int promise) {
        Map<String, Edge> byName = new LinkedHashMap<>();
        for (Edges some : new Edges[] {new EdgesOfTown(), new EdgesOfActs(), new EdgesOfGetting(), new EdgesOfSeen(),
            new EdgesOfOdds(), new EdgesOfSlots()}) {
            some.ofPromise(promise);
            for (Edge e : some.edges()) {
                if (e.promise() != promise) throw new IllegalStateException("not of promise " + promise + ": " + e.name);
                if (byName.put(e.name, e) != null) throw new IllegalStateException("two edges: " + e.name);
            }
        }
        return byName;
    }

    /** How much of one edge is not as due, with whatever class there is; what a call throws is not as due. */
    static int wrongOf(int promise, String name) {
        Due due = new Due(name, true);
        try {
            of(promise).get(name).show(due);
        } catch (RuntimeException | StackOverflowError thrown) {
            return due.wrong() + 1;
        }
        return due.looked() == 0 ? 1 : due.wrong();
    }

    public static void main(String[] args) {
        Due all = new Due("EdgeTest");
        for (int promise = 1; promise <= PROMISES; promise++) {
            Map<String, Edge> edges = of(promise);
            all.holds("promise " + promise + " has edges", !edges.isEmpty());
            for (Edge e : edges.values()) {
                Due due = new Due(e.name);
                e.show(due);
                all.is(e.name, due.wrong(), 0);
                all.holds(e.name + " looks at something", due.looked() > 0);
            }
        }
        all.end();
    }
}
