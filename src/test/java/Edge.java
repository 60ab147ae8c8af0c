import java.util.ArrayList;
import java.util.List;
import java.util.function.Consumer;

/** A sentence of the document that names a boundary case: calls that show it, and breaks of it by which they must fail. */
final class Edge {
    final String name;
    private final Consumer<Due> shown;
    private final int[] values;
    private final List<Break> breaks = new ArrayList<>();

    Edge(String name, Consumer<Due> shown, int... values) {
        this.name = name;
        this.shown = shown;
        this.values = values;
    }

    /** The number of the promise, with which each name begins. */
    int promise() {
        return Integer.parseInt(name.substring(0, name.indexOf(' ')));
    }

    void show(Due due) {
        shown.accept(due);
    }

    List<Break> breaks() {
        return breaks;
    }

    /** Broken in the method with this head, by putting each second text in the place of the one ahead of it. */
    Edge breaks(String head, String... pairs) {
        breaks.add(new Break(head, List.of(pairs)));
        return this;
    }

    /** Broken by looking at the one ahead of the other. */
    Edge swaps(String head, String one, String other) {
        return breaks(head, one, other, other, one);
    }

    /** Broken by not refusing one of the values, by a change of the state, and by an act, though it is refused. */
    Edge lets(String head, String condition, String variable) {
        for (int v : values) breaks(head, condition, "(" + variable + " != " + v + " && (" + condition + "))");
        return slips(head, condition);
    }

    /** Broken by a change of the state, and by an act, though it is refused. */
    Edge slips(String head, String condition) {
        breaks(head, condition, "((" + condition + ") && now.year++ > Integer.MIN_VALUE)");
        return breaks(head, condition, "((" + condition + ") && ahead.add(now))");
    }
}
