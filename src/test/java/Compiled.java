import java.io.ByteArrayOutputStream;
import java.io.IOException;
import java.io.InputStream;
import java.io.OutputStream;
import java.net.URI;
import java.util.HashMap;
import java.util.List;
import java.util.Map;
import javax.tools.Diagnostic;
import javax.tools.DiagnosticCollector;
import javax.tools.FileObject;
import javax.tools.ForwardingJavaFileManager;
import javax.tools.JavaCompiler;
import javax.tools.JavaFileManager;
import javax.tools.JavaFileObject;
import javax.tools.SimpleJavaFileObject;
import javax.tools.ToolProvider;

/** Compiles a class that a test puts together, in memory. */
final class Compiled {
    private static final JavaCompiler COMPILER = ToolProvider.getSystemJavaCompiler();
    private static final ThreadLocal<JavaFileManager> FILES =
        ThreadLocal.withInitial(() -> COMPILER.getStandardFileManager(null, null, null));

    private Compiled() {
    }

    /** A loader with the class of this source, and with all other classes once more, so that they see it. */
    static ClassLoader loader(String name, String source) {
        if (COMPILER == null) throw new IllegalStateException("java comes without a compiler");
        DiagnosticCollector<JavaFileObject> said = new DiagnosticCollector<>();
        Made made = new Made(FILES.get());
        List<String> options = List.of("-proc:none", "-Xlint:none");
        List<Source> sources = List.of(new Source(name, source));
        if (COMPILER.getTask(null, made, said, options, null, sources).call()) return new Loader(made.bytes());
        for (Diagnostic<?> d : said.getDiagnostics()) {
            if (d.getKind() == Diagnostic.Kind.ERROR) throw new IllegalStateException(d.toString());
        }
        throw new IllegalStateException("it does not compile");
    }

    private static final class Loader extends ClassLoader {
        private final Map<String, byte[]> compiled;

        Loader(Map<String, byte[]> compiled) {
            super(ClassLoader.getPlatformClassLoader());
            this.compiled = compiled;
        }

        @Override
        protected Class<?> findClass(String name) throws ClassNotFoundException {
            byte[] code = compiled.containsKey(name) ? compiled.get(name) : onPath(name);
            return defineClass(name, code, 0, code.length);
        }

        private static byte[] onPath(String name) throws ClassNotFoundException {
            try (InputStream in = Compiled.class.getResourceAsStream("/" + name + ".class")) {
                if (in == null) throw new ClassNotFoundException(name);
                return in.readAllBytes();
            } catch (IOException e) {
                throw new ClassNotFoundException(name, e);
            }
        }
    }

    private static final class Source extends SimpleJavaFileObject {
        private final String text;

        Source(String name, String text) {
            super(URI.create("string:///" + name + ".java"), Kind.SOURCE);
            this.text = text;
        }

        @Override
        public CharSequence getCharContent(boolean ignoreErrors) {
            return text;
        }
    }

    /** Keeps what the compiler makes in memory. */
    private static final class Made extends ForwardingJavaFileManager<JavaFileManager> {
        private final Map<String, ByteArrayOutputStream> made = new HashMap<>();

        Made(JavaFileManager files) {
            super(files);
        }

        @Override
        public JavaFileObject getJavaFileForOutput(Location place, String name, JavaFileObject.Kind kind, FileObject from) {
            return new SimpleJavaFileObject(URI.create("memory:///" + name.replace('$', '-') + ".class"), kind) {
                @Override
                public OutputStream openOutputStream() {
                    ByteArrayOutputStream out = new ByteArrayOutputStream();
                    made.put(name, out);
                    return out;
                }
            };
        }

        Map<String, byte[]> bytes() {
            Map<String, byte[]> bytes = new HashMap<>();
            made.forEach((name, code) -> bytes.put(name, code.toByteArray()));
            return bytes;
        }
    }
}
