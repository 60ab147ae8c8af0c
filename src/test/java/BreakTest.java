import java.io.ByteArrayOutputStream;
import java.io.IOException;
import java.io.InputStream;
import java.io.OutputStream;
import java.lang.reflect.InvocationTargetException;
import java.lang.reflect.Method;
import java.net.URI;
import java.nio.file.Files;
import java.nio.file.Path;
import java.util.ArrayList;
import java.util.HashMap;
import java.util.List;
import java.util.Map;
import javax.tools.Diagnostic;
import javax.tools.DiagnosticCollector;
import javax.tools.FileObject;
import javax.tools.ForwardingJavaFileManager;
import javax.tools.JavaCompiler;
import javax.tools.JavaFileManager;
import javax.tools.JavaFileObject;
import javax.tools.SimpleJavaFileObject;
import javax.tools.ToolProvider;

/**
 * Each edge of EdgeTest must fail if its sentence is broken. So Model.java is made a YoungestHouse: as it stands all
 * edges hold for it, and with each break of an edge in its source that edge must not. (The class itself can be written
 * otherwise without this test.)
 */
public final class BreakTest {
    private static final Path MODEL = Path.of("src/test/java/Model.java");
    private static final JavaCompiler COMPILER = ToolProvider.getSystemJavaCompiler();
    private static final ThreadLocal<JavaFileManager> FILES =
        ThreadLocal.withInitial(() -> COMPILER.getStandardFileManager(null, null, null));
    private static final Due due = new Due("BreakTest");

    private BreakTest() {
    }

    public static void main(String[] args) throws Exception {
        if (COMPILER == null) throw new IllegalStateException("java comes without a compiler");
        String model = asYoungestHouse(Files.readString(MODEL));
        Method whole = wrongOf(model);
        List<Broken> all = new ArrayList<>();
        for (int promise = 1; promise <= EdgeTest.PROMISES; promise++) {
            for (Edge e : EdgeTest.of(promise).values()) {
                due.is("unbroken: " + e.name, call(whole, e), 0);
                due.holds("has a break: " + e.name, !e.breaks().isEmpty());
                for (Break b : e.breaks()) all.add(new Broken(model, e, b));
            }
        }
        all.parallelStream().forEach(Broken::look);
        for (Broken b : all) due.is(b.edge.name + ", broken by " + b.how + ": fails", b.fails ? 1 : 0, 1);
        due.end();
    }

    /** One edge, with the model broken in one way. */
    private static final class Broken {
        private final String model;
        private final Edge edge;
        private final Break how;
        private boolean fails;

        Broken(String model, Edge edge, Break how) {
            this.model = model;
            this.edge = edge;
            this.how = how;
        }

        void look() {
            try {
                fails = call(wrongOf(how.of(model)), edge) > 0;
            } catch (IllegalStateException | ReflectiveOperationException no) {
                System.out.println("BreakTest: " + edge.name + ": " + no.getMessage());
            }
        }
    }

    private static String asYoungestHouse(String model) {
        return model.replaceFirst("\nfinal class Model", "\npublic final class YoungestHouse")
            .replace("private static final int UNKNOWN", "public static final int UNKNOWN")
            .replace("Model::", "YoungestHouse::");
    }

    private static int call(Method wrongOf, Edge e) throws IllegalAccessException {
        try {
            return (int) wrongOf.invoke(null, e.promise(), e.name);
        } catch (InvocationTargetException thrown) {
            throw new IllegalStateException(thrown.getCause().toString());
        }
    }

    /** EdgeTest.wrongOf, for a class YoungestHouse with this source. */
    private static Method wrongOf(String source) throws ReflectiveOperationException {
        Class<?> edges = new Loader(compiled(source)).loadClass("EdgeTest");
        Method wrongOf = edges.getDeclaredMethod("wrongOf", int.class, String.class);
        wrongOf.setAccessible(true);
        return wrongOf;
    }

    private static Map<String, byte[]> compiled(String source) {
        DiagnosticCollector<JavaFileObject> said = new DiagnosticCollector<>();
        Made made = new Made(FILES.get());
        List<String> options = List.of("-proc:none", "-Xlint:none");
        if (COMPILER.getTask(null, made, said, options, null, List.of(new Source(source))).call()) return made.bytes();
        for (Diagnostic<?> d : said.getDiagnostics()) {
            if (d.getKind() == Diagnostic.Kind.ERROR) throw new IllegalStateException(d.toString());
        }
        throw new IllegalStateException("it does not compile");
    }

    /** The broken YoungestHouse, and all test classes once more, so that they see it. */
    private static final class Loader extends ClassLoader {
        private final Map<String, byte[]> compiled;

        Loader(Map<String, byte[]> compiled) {
            super(ClassLoader.getPlatformClassLoader());
            this.compiled = compiled;
        }

        @Override
        protected Class<?> findClass(String name) throws ClassNotFoundException {
            byte[] code = compiled.containsKey(name) ? compiled.get(name) : ofTest(name);
            return defineClass(name, code, 0, code.length);
        }

        private static byte[] ofTest(String name) throws ClassNotFoundException {
            try (InputStream in = BreakTest.class.getResourceAsStream("/" + name + ".class")) {
                if (in == null) throw new ClassNotFoundException(name);
                return in.readAllBytes();
            } catch (IOException e) {
                throw new ClassNotFoundException(name, e);
            }
        }
    }

    private static final class Source extends SimpleJavaFileObject {
        private final String text;

        Source(String text) {
            super(URI.create("string:///YoungestHouse.java"), Kind.SOURCE);
            this.text = text;
        }

        @Override
        public CharSequence getCharContent(boolean ignoreErrors) {
            return text;
        }
    }

    /** Keeps what the compiler makes in memory. */
    private static final class Made extends ForwardingJavaFileManager<JavaFileManager> {
        private final Map<String, ByteArrayOutputStream> made = new HashMap<>();

        Made(JavaFileManager files) {
            super(files);
        }

        @Override
        public JavaFileObject getJavaFileForOutput(Location place, String name, JavaFileObject.Kind kind, FileObject from) {
            return new SimpleJavaFileObject(URI.create("memory:///" + name.replace('$', '-') + ".class"), kind) {
                @Override
                public OutputStream openOutputStream() {
                    ByteArrayOutputStream out = new ByteArrayOutputStream();
                    made.put(name, out);
                    return out;
                }
            };
        }

        Map<String, byte[]> bytes() {
            Map<String, byte[]> bytes = new HashMap<>();
            made.forEach((name, code) -> bytes.put(name, code.toByteArray()));
            return bytes;
        }
    }
}
