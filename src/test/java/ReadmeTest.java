import java.io.IOException;
import java.lang.reflect.Method;
import java.lang.reflect.Modifier;
import java.nio.file.Files;
import java.nio.file.Path;
import java.util.ArrayList;
import java.util.List;
import java.util.Set;
import java.util.TreeSet;
import java.util.regex.Matcher;
import java.util.regex.Pattern;
import java.util.stream.Stream;

/** README.md: the calls that it shows answer what stands behind them, and the tests that it names are there. */
public final class ReadmeTest {
    private static final Path README = Path.of("README.md");
    private static final Path TESTS = Path.of("src/test/java");
    private static final Pattern BLOCK = Pattern.compile("(?s)```java\n(.*?)```");
    /** A call, and behind it what is due: a number or the name of a constant, and what it means, or nothing more. */
    private static final Pattern SHOWN = Pattern.compile("x\\.(\\w+)(\\(.*\\)); +// (-?\\d+|[A-Z]+)(: .+)?");
    private static final Pattern REFUSAL = Pattern.compile("`([A-Z]+)` (?:is )?(-\\d)");
    private static final Due due = new Due("ReadmeTest");

    private ReadmeTest() {
    }

    public static void main(String[] args) throws Exception {
        String readme = Files.readString(README);
        List<String> lines = linesOfUse(readme);
        everyCallIsShown(lines);
        eachAnswersSo(lines);
        refusals(readme);
        tests(readme);
        due.end();
    }

    private static List<String> linesOfUse(String readme) {
        List<String> lines = new ArrayList<>();
        Matcher block = BLOCK.matcher(readme);
        while (block.find()) lines.addAll(block.group(1).lines().toList());
        due.holds("there is some", !lines.isEmpty());
        return lines;
    }

    private static void everyCallIsShown(List<String> lines) {
        Set<String> shown = new TreeSet<>();
        for (String line : lines) {
            Matcher call = SHOWN.matcher(line);
            if (call.matches()) shown.add(call.group(1));
            else due.holds("has its answer: " + line, !line.startsWith("x."));
        }
        for (Method m : YoungestHouse.class.getDeclaredMethods()) {
            if (Modifier.isPublic(m.getModifiers())) due.holds("is shown: " + m.getName(), shown.contains(m.getName()));
        }
    }

    /** All lines as one program, whose answers are then compared with those shown. */
    private static void eachAnswersSo(List<String> lines) throws ReflectiveOperationException {
        StringBuilder program = new StringBuilder("public final class Shown {\n"
            + "public static long[][] answers() {\njava.util.List<long[]> all = new java.util.ArrayList<>();\n");
        List<String> calls = new ArrayList<>();
        for (String line : lines) {
            Matcher call = SHOWN.matcher(line);
            if (!call.matches()) {
                program.append(line).append('\n');
                continue;
            }
            String want = call.group(3);
            if (Character.isLetter(want.charAt(0))) want = "YoungestHouse." + want;
            String made = "x." + call.group(1) + call.group(2);
            calls.add(made);
            program.append("all.add(new long[] {").append(made).append(", ").append(want).append("});\n");
        }
        program.append("return all.toArray(new long[0][]);\n}\n}\n");
        Class<?> shown = Compiled.loader("Shown", program.toString()).loadClass("Shown");
        long[][] answers = (long[][]) shown.getMethod("answers").invoke(null);
        for (int i = 0; i < calls.size(); i++) due.is("call " + (i + 1) + ", " + calls.get(i), answers[i][0], answers[i][1]);
    }

    private static void refusals(String readme) throws ReflectiveOperationException {
        Set<String> told = new TreeSet<>();
        Matcher refusal = REFUSAL.matcher(readme);
        while (refusal.find()) {
            told.add(refusal.group(1));
            int value = YoungestHouse.class.getField(refusal.group(1)).getInt(null);
            due.is(refusal.group(1), value, Integer.parseInt(refusal.group(2)));
        }
        due.is("constants told: " + told, told.size(), YoungestHouse.class.getFields().length);
    }

    private static void tests(String readme) throws IOException {
        Set<String> named = new TreeSet<>();
        Matcher name = Pattern.compile("`" + TESTS + "/(\\w+Test)\\.java`").matcher(readme);
        while (name.find()) named.add(name.group(1));
        Set<String> there = new TreeSet<>();
        try (Stream<Path> files = Files.list(TESTS)) {
            for (Path p : files.toList()) {
                String file = p.getFileName().toString();
                if (file.endsWith("Test.java")) there.add(file.substring(0, file.length() - ".java".length()));
            }
        }
        due.holds("tests named: " + named + ", there: " + there, named.equals(there));
        due.holds("how they are run", readme.contains("`bash .ci/run`") && Files.isExecutable(Path.of(".ci/run")));
    }
}
