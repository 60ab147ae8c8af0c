/** Counts answers, and tells those that are not as due. */
final class Due {
    private final String name;
    private final boolean quiet;
    private int looked;
    private int wrong;

    Due(String name) {
        this(name, false);
    }

    Due(String name, boolean quiet) {
        this.name = name;
        this.quiet = quiet;
    }

    void is(String call, long got, long want) {
        looked++;
        if (got == want) return;
        wrong++;
        if (!quiet && wrong <= 40) System.out.println(name + ": " + call + " answered " + got + ", due is " + want);
    }

    void holds(String what, boolean so) {
        is(what, so ? 1 : 0, 1);
    }

    int looked() {
        return looked;
    }

    int wrong() {
        return wrong;
    }

    void end() {
        System.out.println(name + ": " + looked + " looked at, " + wrong + " not as due");
        if (wrong != 0 || looked == 0) System.exit(1);
    }
}
