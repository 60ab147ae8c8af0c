import java.util.List;

/** A way to break one sentence in the source of Model.java: some of its text put in another's place. */
final class Break {
    private final String head;
    private final List<String> pairs;

    /** HEAD: what the head of one method holds and nothing else does, or nothing: the whole file; PAIRS: from, to, .. */
    Break(String head, List<String> pairs) {
        this.head = head;
        this.pairs = pairs;
    }

    String of(String source) {
        int from = head.isEmpty() ? 0 : onlyPlace(source, head);
        int to = head.isEmpty() ? source.length() : endOfBody(source, from);
        String region = source.substring(from, to);
        for (int i = 0; i < pairs.size(); i += 2) region = replaced(region, pairs.get(i), "\0" + i + "\0");
        for (int i = 0; i < pairs.size(); i += 2) region = replaced(region, "\0" + i + "\0", pairs.get(i + 1));
        return source.substring(0, from) + region + source.substring(to);
    }

    private static String replaced(String text, String what, String by) {
        int at = onlyPlace(text, what);
        return text.substring(0, at) + by + text.substring(at + what.length());
    }

    private static int onlyPlace(String text, String what) {
        int at = text.indexOf(what);
        if (at < 0) throw new IllegalStateException("not found: " + what);
        if (text.indexOf(what, at + 1) >= 0) throw new IllegalStateException("found twice: " + what);
        return at;
    }

    private static int endOfBody(String source, int from) {
        int open = 0;
        for (int at = source.indexOf('{', from); at >= 0 && at < source.length(); at++) {
            if (source.charAt(at) == '{') open++;
            if (source.charAt(at) == '}') open--;
            if (open == 0) return at + 1;
        }
        throw new IllegalStateException("no body: " + source.substring(from));
    }

    @Override
    public String toString() {
        return head + " " + pairs;
    }
}
