import java.lang.reflect.InvocationTargetException;
import java.lang.reflect.Method;
import java.nio.file.Files;
import java.nio.file.Path;
import java.util.ArrayList;
import java.util.List;

/**
 * Each edge of EdgeTest must fail if its sentence is broken. So Model.java is made a YoungestHouse: as it stands all
 * edges hold for it, and with each break of an edge in its source that edge must not. (The class itself can be written
 * otherwise without this test.)
 */
public final class BreakTest {
    private static final Path MODEL = Path.of("src/test/java/Model.java");
    private static final Due due = new Due("BreakTest");

    private BreakTest() {
    }

    public static void main(String[] args) throws Exception {
        String model = asYoungestHouse(Files.readString(MODEL));
        Method whole = wrongOf(model);
        List<Broken> all = new ArrayList<>();
        for (int promise = 1; promise <= EdgeTest.PROMISES; promise++) {
            for (Edge e : EdgeTest.of(promise).values()) {
                due.is("unbroken: " + e.name, call(whole, e), 0);
                due.holds("has a break: " + e.name, !e.breaks().isEmpty());
                for (Break b : e.breaks()) all.add(new Broken(model, e, b));
            }
        }
        all.parallelStream().forEach(Broken::look);
        for (Broken b : all) due.is(b.edge.name + ", broken by " + b.how + ": fails", b.fails ? 1 : 0, 1);
        due.end();
    }

    /** One edge, with the model broken in one way. */
    private static final class Broken {
        private final String model;
        private final Edge edge;
        private final Break how;
        private boolean fails;

        Broken(String model, Edge edge, Break how) {
            this.model = model;
            this.edge = edge;
            this.how = how;
        }

        void look() {
            try {
                fails = call(wrongOf(how.of(model)), edge) > 0;
            } catch (IllegalStateException | ReflectiveOperationException no) {
                System.out.println("BreakTest: " + edge.name + ": " + no.getMessage());
            }
        }
    }

    private static String asYoungestHouse(String model) {
        return model.replaceFirst("\nfinal class Model", "\npublic final class YoungestHouse")
            .replace("private static final int UNKNOWN", "public static final int UNKNOWN")
            .replace("Model::", "YoungestHouse::");
    }

    private static int call(Method wrongOf, Edge e) throws IllegalAccessException {
        try {
            return (int) wrongOf.invoke(null, e.promise(), e.name);
        } catch (InvocationTargetException thrown) {
            throw new IllegalStateException(thrown.getCause().toString());
        }
    }

    /** EdgeTest.wrongOf, for a class YoungestHouse with this source. */
    private static Method wrongOf(String source) throws ReflectiveOperationException {
        Class<?> edges = Compiled.loader("YoungestHouse", source).loadClass("EdgeTest");
        Method wrongOf = edges.getDeclaredMethod("wrongOf", int.class, String.class);
        wrongOf.setAccessible(true);
        return wrongOf;
    }
}
