import java.util.ArrayList;
import java.util.List;
import java.util.function.Consumer;

/** The edges of some of the promises, and what all of them share. */
abstract class Edges {
    static final int UNKNOWN = -1, BAD = -2, LATE = -3, FULL = -4, NONE = -9;
    static final int LOW = Integer.MIN_VALUE, HIGH = Integer.MAX_VALUE;

    /** A call with one number that matters. */
    interface Call {
        long on(YoungestHouse x, int v);
    }

    static final Look.Setup NEW = x -> { };
    static final Look.Setup NOBODY = Look.town("YH01H19");

    /** A son of the eldest's house 0 that is told, one more of a twin, two daughters of the youngest's house 1. */
    static final String TWO = "YH09H15C500C301C712C812";

    /**
     * 2 houses (1 is inherited), children 0 .. 5 (0 and 3 are dead), 14 acts and some forgotten, 2 seen, slot 0 kept,
     * THE SEED 77, and a TEXT with a fault.
     */
    static final Look.Setup SETTLED = Look.town(TWO)
        .then(x -> {
            x.roll(1);
            x.year();
            x.bear(0, 1);
            x.inherit(1);
            x.die(3);
            x.move(1, 1);
            x.keep(0);
            x.roll(0);
            x.year();
            x.bear(1, 3);
            x.roll(1);
            x.move(2, 0);
            x.year();
            x.die(0);
            x.roll(0);
            x.year();
        })
        .then(x -> {
            x.see(0, 0, 3);
            x.see(1, 2, 12);
            x.seed(77);
            x.write('x');
        });

    /** As SETTLED, with as many CHILDREN as can be. */
    static final Look.Setup SEVEN = SETTLED.then(x -> x.bear(0, 0));

    private final List<Edge> edges = new ArrayList<>();

    List<Edge> edges() {
        return edges;
    }

    /** Adds the edges of one promise, if they are of these. */
    abstract void ofPromise(int promise);

    Edge edge(String name, Consumer<Due> shown) {
        return added(new Edge(name, shown));
    }

    /** Each of the values is refused so, and what is refused changes nothing. */
    Edge refusal(String name, Look.Setup setup, int answer, Call call, int... values) {
        return added(new Edge(name, due -> {
            for (int v : values) {
                due.is("with " + v, call.on(Look.made(setup), v), answer);
                idle(due, "with " + v, setup, call, v);
            }
        }, values));
    }

    /** UNKNOWN: what is below 0, or above the last one of SETTLED; by a test of that variable in the method's head. */
    void noSuch(String name, String head, String test, String variable, int first, Call call) {
        refusal(name + " below 0", SETTLED, UNKNOWN, call, -1, LOW).lets(head, test, variable);
        refusal(name + " above the last", SETTLED, UNKNOWN, call, first, first + 1, HIGH).lets(head, test, variable);
    }

    void noSuchHouse(int promise, String head, Call call) {
        String name = promise + " UNKNOWN: a HOUSE";
        noSuch(name, head, "!now.isPlace(house)", "house", 2, call);
        refusal(name + ", with no TOWN yet", NEW, UNKNOWN, call, 0).lets(head, "!now.isPlace(house)", "house");
    }

    void noSuchChild(int promise, String head, Call call) {
        String name = promise + " UNKNOWN: a CHILD";
        noSuch(name, head, "!now.isKid(child)", "child", 6, call);
        refusal(name + ", with nobody there yet", NOBODY, UNKNOWN, call, 0).lets(head, "!now.isKid(child)", "child");
        refusal(name + ", with no TOWN yet", NEW, UNKNOWN, call, 0).slips(head, "!now.isKid(child)");
    }

    /** The call, with each of the values, changes nothing. */
    Edge idleEdge(String name, Look.Setup setup, Call call, int... values) {
        return added(new Edge(name, due -> {
            for (int v : values) idle(due, "with " + v, setup, call, v);
        }, values));
    }

    private static void idle(Due due, String what, Look.Setup setup, Call call, int v) {
        String before = Look.deep(setup);
        due.holds(what + " changes nothing", Look.deep(setup.then(x -> call.on(x, v))).equals(before));
    }

    private Edge added(Edge edge) {
        edges.add(edge);
        return edge;
    }

    static YoungestHouse townOf(String text) {
        return Look.made(Look.town(text));
    }

    static void fraction(Due due, String what, int upper, int lower, int wantUpper, int wantLower) {
        due.is(what + " above", upper, wantUpper);
        due.is(what + " below", lower, wantLower);
    }

    static void aboutIs(Due due, YoungestHouse x, int... want) {
        for (int what = 0; what < want.length; what++) due.is("about(" + what + ")", x.about(what), want[what]);
    }
}
