import java.io.IOException;
import java.lang.reflect.Constructor;
import java.lang.reflect.Field;
import java.lang.reflect.Method;
import java.lang.reflect.Modifier;
import java.nio.file.Files;
import java.nio.file.Path;
import java.util.Arrays;
import java.util.Set;
import java.util.TreeSet;
import java.util.regex.Matcher;
import java.util.regex.Pattern;

/** What of ../shared/LANGUAGE.md and of the document's face a program can look after. */
public final class LanguageTest {
    private static final Due due = new Due("LanguageTest");
    private static final Path SOURCE = Path.of("src/main/java/YoungestHouse.java");

    private static final String[] FACE = {
        "int write(int)", "int wipe()", "int fault()", "int town()", "int about(int)", "int child(int, int)",
        "int heirs(int, int)", "int bear(int, int)", "int die(int)", "int move(int, int)", "int roll(int)",
        "int inherit(int)", "int year()", "int undo()", "int gets(int)", "int way(int, int)",
        "int rollFor(int, int)", "int mend(int)", "int judge(int, int)", "int share(int, boolean)",
        "int see(int, int, int)", "int unsee()", "int sides(int)", "int rests(int, int, int)",
        "int odds(int, int, boolean)", "long seed(long)", "int towns(int)", "int keep(int)", "int again(int)",
    };

    public static void main(String[] args) throws IOException {
        face();
        insideClasses();
        source(Files.readString(SOURCE));
        due.end();
    }

    private static String signature(Method m) {
        StringBuilder s = new StringBuilder(m.getReturnType() + " " + m.getName() + "(");
        for (Class<?> p : m.getParameterTypes()) s.append(s.charAt(s.length() - 1) == '(' ? "" : ", ").append(p);
        return s.append(")").toString();
    }

    private static void face() {
        Class<?> c = YoungestHouse.class;
        due.is("modifiers of the class", c.getModifiers(), Modifier.PUBLIC | Modifier.FINAL);
        Set<String> open = new TreeSet<>();
        Set<String> names = new TreeSet<>();
        for (String s : FACE) names.add(s.replaceAll(".* |\\(.*", ""));
        for (Method m : c.getDeclaredMethods()) {
            if (!Modifier.isPrivate(m.getModifiers())) open.add(signature(m));
            else due.holds("name of private " + m.getName(), !names.contains(m.getName()));
            due.holds("parameters of " + m.getName(), m.getParameterCount() <= 7);
        }
        due.holds("methods of the face: " + open, open.equals(new TreeSet<>(Arrays.asList(FACE))));
        Constructor<?>[] made = c.getDeclaredConstructors();
        due.is("constructors", made.length, 1);
        due.is("modifiers of the constructor", made[0].getModifiers(), Modifier.PUBLIC);
        Set<String> constants = new TreeSet<>();
        for (Field f : c.getDeclaredFields()) if (!Modifier.isPrivate(f.getModifiers())) constants.add(f.getName());
        due.holds("constants", constants.equals(Set.of("UNKNOWN", "BAD", "LATE", "FULL", "NONE")));
        fields(c);
    }

    private static void insideClasses() {
        Class<?>[] inside = YoungestHouse.class.getDeclaredClasses();
        due.holds("number of classes", inside.length <= 11);
        for (Class<?> c : inside) {
            due.holds(c + " is static", Modifier.isStatic(c.getModifiers()));
            int open = Modifier.PUBLIC | Modifier.PROTECTED;
            due.is(c + " is not open", c.getModifiers() & open, 0);
            fields(c);
        }
    }

    private static void fields(Class<?> c) {
        int own = 0;
        for (Field f : c.getDeclaredFields()) {
            if (!Modifier.isStatic(f.getModifiers())) own++;
            else due.holds("static " + f.getName() + " is final", Modifier.isFinal(f.getModifiers()));
        }
        due.holds("fields of " + c, own <= 20);
    }

    private static void source(String whole) {
        for (int i = 0; i < whole.length(); i++) due.holds("sign " + i, whole.charAt(i) < 127);
        String code = whole.replaceAll("(?s)/\\*.*?\\*/", "").replaceAll("//[^\n]*", "").replaceAll("'.'", "0");
        for (String word : new String[] {"throw", "throws", "try", "catch", "finally", "synchronized", "assert",
            "import", "package", "System", "Object", "toString", "equals", "hashCode", "float", "double"}) {
            due.holds("no " + word, !Pattern.compile("\\b" + word + "\\b").matcher(code).find());
        }
        due.holds("no lambda, no method reference", !code.contains("->") && !code.contains("::"));
        due.holds("no text", !code.contains("\""));
        made(code);
        lengths(code);
    }

    /** Objects and arrays are made in constructors alone: a line each. */
    private static void made(String code) {
        Matcher line = Pattern.compile("(?m)^.*\\bnew\\b.*$").matcher(code);
        while (line.find()) {
            due.holds(line.group().trim(), line.group().matches("\\s+\\w+ = new [A-Za-z]+[(\\[].*[)\\]];"));
        }
        Matcher method = Pattern.compile("(?m)^ {4,8}[a-z][\\w ]* \\w+\\([^)]*\\) \\{").matcher(code);
        while (method.find()) {
            String head = method.group().trim();
            if (head.startsWith("public YoungestHouse")) continue;
            due.holds("nothing is made in " + head, !body(code, method.end()).contains("new "));
        }
    }

    private static void lengths(String code) {
        Matcher method = Pattern.compile("(?m)^ {4,8}[\\w ]+\\([^)]*\\) \\{").matcher(code);
        while (method.find()) {
            long lines = body(code, method.end()).lines().count();
            due.holds("length of " + method.group().trim(), lines <= 60);
        }
    }

    private static String body(String code, int from) {
        int open = 1;
        int at = from;
        while (open > 0 && at < code.length()) {
            if (code.charAt(at) == '{') open++;
            if (code.charAt(at) == '}') open--;
            at++;
        }
        return code.substring(from, at);
    }
}
