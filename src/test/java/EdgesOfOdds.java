/** Promises 25 to 28: RESTS, ODDS, THE SEED and TOWNS. */
final class EdgesOfOdds extends Edges {
    private static final long FACTOR = 6364136223846793005L;
    private static final long STEP = 1442695040888963407L;

    @Override
    void ofPromise(int promise) {
        switch (promise) {
            case 25:
                promise25();
                promise25Late();
                promise25Rests();
                break;
            case 26:
                promise26();
                promise26Bounds();
                break;
            case 27:
                promise27();
                break;
            case 28:
                promise28();
                promise28Picks();
                break;
            default:
                break;
        }
    }

    private void promise25() {
        String rests = "int rests(";
        String unknown = "if (!now.isKid(child) || !now.isKid(other)) return UNKNOWN;";
        String bad = "if (child == other || what < 0 || what > 1) return BAD;";
        String late = "if (!now.lives(child) || !now.lives(other)) return LATE;";
        noSuch("25 UNKNOWN: a CHILD", rests, "!now.isKid(child)", "child", 6, (x, v) -> x.rests(v, 5, 0));
        noSuch("25 UNKNOWN: the other", rests, "!now.isKid(other)", "other", 6, (x, v) -> x.rests(1, v, 1));
        refusal("25 UNKNOWN: nobody there yet", NEW, UNKNOWN, (x, v) -> x.rests(v, 1, 0), 0)
            .breaks(rests, "!now.isKid(child) || !now.isKid(other)", "child < 0")
            .slips(rests, "!now.isKid(child) || !now.isKid(other)");
        refusal("25 BAD: both are one", SETTLED, BAD, (x, v) -> x.rests(v, v, 0), 1, 5)
            .lets(rests, "child == other", "child");
        refusal("25 BAD: what is below 0", SETTLED, BAD, (x, v) -> x.rests(1, 5, v), -1, LOW)
            .breaks(rests, "what < 0", "what < 0 && what != -1")
            .breaks(rests, "what < 0", "what < 0 && what != Integer.MIN_VALUE")
            .slips(rests, "child == other || what < 0 || what > 1");
        refusal("25 BAD: what is above 1", SETTLED, BAD, (x, v) -> x.rests(1, 5, v), 2, HIGH)
            .breaks(rests, "what > 1", "what > 2")
            .breaks(rests, "what > 1", "what == 2").slips(rests, "child == other || what < 0 || what > 1");
        refusal("25 UNKNOWN is told ahead of BAD: both are one that there is not", SETTLED, UNKNOWN,
            (x, v) -> x.rests(v, v, 0), 6, -1)
            .swaps(rests, unknown, bad);
        refusal("25 UNKNOWN is told ahead of BAD: what", SETTLED, UNKNOWN, (x, v) -> x.rests(1, 6, v), 2, -1)
            .swaps(rests, unknown, bad);
        refusal("25 UNKNOWN is told ahead of LATE", SETTLED, UNKNOWN, (x, v) -> x.rests(0, v, 0), 6, -1)
            .swaps(rests, unknown, late);
        refusal("25 BAD is told ahead of LATE: both are one that is dead", SETTLED, BAD, (x, v) -> x.rests(v, v, 0), 0, 3)
            .swaps(rests, bad, late);
        refusal("25 BAD is told ahead of LATE: what, of two HOUSES", SETTLED, BAD, (x, v) -> x.rests(1, 4, v), 2, -1)
            .swaps(rests, bad, "if (now.kids.get(child).house != now.kids.get(other).house) return LATE;");
    }

    private void promise25Late() {
        String rests = "int rests(";
        refusal("25 LATE: the one does not live", SETTLED, LATE, (x, v) -> x.rests(v, 2, 0), 0)
            .lets(rests, "!now.lives(child)", "child");
        refusal("25 LATE: the other does not live", SETTLED, LATE, (x, v) -> x.rests(4, v, 1), 0)
            .lets(rests, "!now.lives(other)", "other");
        refusal("25 LATE: neither lives", SETTLED.then(x -> x.move(3, 0)), LATE, (x, v) -> x.rests(0, v, 1), 3)
            .breaks(rests, "!now.lives(child) || !now.lives(other)", "now.lives(child) != now.lives(other)")
            .slips(rests, "!now.lives(child) || !now.lives(other)");
        refusal("25 LATE: they are not of one HOUSE", SETTLED, LATE, (x, v) -> x.rests(1, v, 0), 2, 4)
            .lets(rests, "now.kids.get(child).house != now.kids.get(other).house", "other");
        idleEdge("25 nothing is changed", SETTLED, (x, v) -> x.rests(1, 5, v), 0, 1)
            .breaks(rests, "int count = 0;", "now.year++; int count = 0;")
            .breaks(rests, "int count = 0;", "act(); int count = 0;");
    }

    private Edge restsEdge(String name, String town, int one, int other, int count, int first) {
        return edge(name, due -> {
            due.is("how many of " + town, townOf(town).rests(one, other, 0), count);
            due.is("the first of " + town, townOf(town).rests(one, other, 1), first);
        });
    }

    private void promise25Rests() {
        String rests = "int rests(";
        restsEdge("25 who leaves has 3: a WORTH of 3 is like it, and both rest", "YH03C500C903", 0, 1, 3, 0)
            .breaks(rests, "i == 0 ? 3", "i == 0 ? 4").breaks(rests, "i == 0 ? 3", "i == 0 ? 2")
            .breaks(rests, "[0] > has[i][j][0]", "[0] >= has[i][j][0]");
        restsEdge("25 a WORTH of 2 is less: both leave", "YH02C502C402", 0, 1, 1, 0)
            .breaks(rests, "i == 0 ? 3", "i == 0 ? 2");
        restsEdge("25 a WORTH of 4 is more: the HEIR stays", "YH04C500C400", 0, 1, 1, 10)
            .breaks(rests, "i == 0 ? 3", "i == 0 ? 4", "j == 0 ? 3", "j == 0 ? 4");
        restsEdge("25 the first one: of 01 and 10 that ahead", "YH05C502C402", 0, 1, 2, 1)
            .breaks(rests, "int i = 1; i >= 0; i--", "int i = 0; i < 2; i++");
        restsEdge("25 the first one: 00 is 0", "YH03C502C402", 0, 1, 3, 0)
            .breaks(rests, "first = 10 * i + j;", "first = 10 * i + j; if (first == 0) first = NONE;");
        restsEdge("25 the first one: 11", "YH08C502C402", 0, 1, 1, 11)
            .breaks(rests, "first = 10 * i + j;", "first = 3 * i + j;");
        restsEdge("25 10 times the one and the other: as they are told", "YH19C500C400", 1, 0, 1, 10)
            .breaks(rests, "10 * i + j", "10 * j + i");
        restsEdge("25 its WORTH by the number of HEIRS is cut", "YH07C502C402", 0, 1, 3, 1)
            .breaks(rests, "s.places.get(h).worth / Integer.bitCount(heirs)",
                "(s.places.get(h).worth + 1) / Integer.bitCount(heirs)");
        restsEdge("25 all of it live that do: a third one has it", "YH09C900C500C400", 1, 2, 1, 0)
            .breaks(rests, "State s = now.copy();", "State s = now.copy(); s.kids.get(0).lives = child == 0;");
        edge("25 one of it that is dead is no HEIR, nor one of another HOUSE", due -> {
            YoungestHouse x = townOf("YH09H01C900C500C400C910");
            x.die(0);
            due.is("how many", x.rests(1, 2, 0), 1);
            due.is("the first", x.rests(1, 2, 1), 10);
        }).breaks(rests, "State s = now.copy();", "State s = now.copy(); s.kids.get(0).lives = true;")
            .breaks("int heirs(int h, int side", "k.house != h || ", "");
        edge("25 by its SIDE, and INHERITED or not", due -> {
            YoungestHouse x = townOf("YH09C500C400");
            x.inherit(0);
            due.is("the oldest stays", x.rests(0, 1, 1), 10);
            x.roll(0);
            due.is("the youngest stays", x.rests(0, 1, 1), 1);
        }).breaks(rests, "s.heirs(h)", "s.heirs(h, 0, s::lives)")
            .breaks(rests, "s.heirs(h)", "(s.places.get(h).inherited ? 0 : s.heirs(h))");
    }

    private static void odds(Due due, YoungestHouse x, int child, int tenths, int upper, int lower) {
        fraction(due, "odds(" + child + ", " + tenths + ")", x.odds(child, tenths, true), x.odds(child, tenths, false),
            upper, lower);
    }

    private void promise26() {
        String odds = "int odds(";
        noSuchChild(26, odds, (x, v) -> x.odds(v, 5, true));
        refusal("26 BAD: x below 0", SETTLED, BAD, (x, v) -> x.odds(1, v, true), -1, LOW).lets(odds, "x < 0 || x > 10", "x");
        refusal("26 BAD: x above 10", SETTLED, BAD, (x, v) -> x.odds(1, v, false), 11, HIGH)
            .lets(odds, "x < 0 || x > 10", "x");
        refusal("26 BAD: x of one that is dead", SETTLED, BAD, (x, v) -> x.odds(0, v, true), 11, -1)
            .breaks(odds, "if (x < 0", "if (!now.lives(child)) return 0; if (x < 0").slips(odds, "x < 0 || x > 10");
        refusal("26 UNKNOWN is told ahead of BAD", SETTLED, UNKNOWN, (x, v) -> x.odds(6, v, true), 11, -1)
            .swaps(odds, "if (!now.isKid(child)) return UNKNOWN;", "if (x < 0 || x > 10) return BAD;");
        idleEdge("26 nothing is changed", SETTLED, (x, v) -> x.odds(1, v, true), 0, 3, 10)
            .breaks(odds, "int living", "now.year++; int living")
            .breaks(odds, "int living", "act(); int living");
    }

    private void promise26Bounds() {
        String odds = "int odds(";
        String part = "int part(";
        edge("26 by 0 tenths nobody dies: 1 by 1, or 0 by 1", due -> {
            YoungestHouse x = townOf("YH01C500C300");
            odds(due, x, 0, 0, 1, 1);
            odds(due, x, 1, 0, 0, 1);
        }).breaks(odds, "x < 0 || x > 10", "x < 1 || x > 10").breaks(part, "above.gcd(below)", "BigInteger.ONE");
        edge("26 by 10 tenths all die: 0 by 1", due -> {
            YoungestHouse x = townOf("YH01C500C300");
            odds(due, x, 0, 10, 0, 1);
            odds(due, x, 1, 10, 0, 1);
        }).breaks(odds, "x < 0 || x > 10", "x < 0 || x > 9")
            .breaks(part, "above.gcd(below)", "above.gcd(below).min(BigInteger.TEN)");
        edge("26 of one that is dead: 0 by 1", due -> {
            odds(due, Look.made(SETTLED), 0, 0, 0, 1);
            odds(due, Look.made(SETTLED), 3, 5, 0, 1);
        }).breaks(odds, "(heirs >> child & 1) == 0", "(heirs >> child & 1) == 0 && now.lives(child)")
            .breaks(part, "above.gcd(below)", "BigInteger.ONE");
        edge("26 alone: it lives", due -> {
            odds(due, townOf("YH01C503"), 0, 5, 1, 2);
            odds(due, townOf("YH01C503"), 0, 9, 1, 10);
        }).breaks(part, "above.gcd(below)", "BigInteger.ONE").breaks(odds, "set < 128", "set < 1");
        edge("26 the most: 7 of one HOUSE", due -> {
            YoungestHouse x = townOf("YH01C902C803C801C800C700C600");
            x.bear(0, 0);
            odds(due, x, 6, 1, 9, 100000);
            odds(due, x, 1, 9, 531441, 10000000);
            odds(due, x, 1, 1, 9, 10000000);
        }).breaks(odds, "set < 128", "set < 64").breaks(part, "intValueExact()", "shortValue()");
        edge("26 in least terms", due -> {
            YoungestHouse x = townOf("YH01C500C300");
            odds(due, x, 0, 5, 1, 2);
            odds(due, x, 1, 5, 1, 4);
            odds(due, x, 1, 2, 4, 25);
        }).breaks(part, "above.gcd(below)", "BigInteger.ONE")
            .breaks(part, "above.gcd(below)", "above.gcd(below).gcd(BigInteger.TEN)");
        edge("26 CHILDREN of another HOUSE, and dead ones, do not count", due -> {
            YoungestHouse x = townOf("YH01H01C900C500C910");
            x.die(0);
            odds(due, x, 1, 3, 7, 10);
        }).breaks(odds, "(set & ~living) != 0", "false", "if (now.lives(c)) chance", "chance")
            .breaks("int heirs(int h, int side", "k.house != h || ", "");
        edge("26 an HEIR with others: that it lives", due -> {
            YoungestHouse x = townOf("YH01C502C302C102");
            for (int c = 0; c < 3; c++) odds(due, x, c, 3, 7, 10);
        }).breaks(odds, "(heirs >> child & 1) == 0", "heirs != 1 << child");
    }

    private void promise27() {
        String seed = "long seed(";
        edge("27 what it was: the least long, the largest, -1", due -> {
            YoungestHouse x = new YoungestHouse();
            long[] seeds = {Long.MIN_VALUE, Long.MAX_VALUE, -1, 1, 1L << 32, 1L << 63 | 1, 0};
            long was = 0;
            for (long v : seeds) {
                due.is("seed(" + v + ")", x.seed(v), was);
                was = v;
            }
        }).breaks(seed, "long was = seed.longValue();", "long was = Math.abs(seed.longValue());")
            .breaks(seed, "long was = seed.longValue();", "long was = seed.intValue();")
            .breaks(seed, "long was = seed.longValue();",
                "long was = seed.min(BigInteger.valueOf(Long.MAX_VALUE)).longValue();");
        edge("27 no seed is refused, and it is no ACT", due -> {
            YoungestHouse x = townOf(TWO);
            x.seed(-9);
            due.is("seed", x.seed(-3), -9);
            due.is("undo", x.undo(), LATE);
        }).breaks(seed, "long was", "act(); long was")
            .breaks(seed, "long was = seed.longValue();", "if (v == -9) return BAD; long was = seed.longValue();");
        edge("27 all but THE SEED is as it was", due -> {
            YoungestHouse x = townOf(TWO);
            x.die(0);
            x.see(1, 1, 2);
            String before = Look.all(x);
            x.seed(5);
            due.holds("as it was", Look.all(x).equals(before));
        }).breaks(seed, "return was;", "now.year++; return was;").breaks(seed, "return was;", "seen.clear(); return was;")
            .breaks(seed, "return was;", "ahead.clear(); return was;");
    }

    private static long seedAfter(long seed, int times) {
        for (int i = 0; i < times; i++) seed = seed * FACTOR + STEP;
        return seed;
    }

    private void promise28() {
        String towns = "int towns(";
        refusal("28 BAD: m below 1", SETTLED, BAD, YoungestHouse::towns, 0, -1, LOW).lets(towns, "m < 1 || m > 30", "m");
        refusal("28 BAD: m above 30", SETTLED, BAD, YoungestHouse::towns, 31, HIGH).breaks(towns, "m > 30", "m > 31")
            .breaks(towns, "m > 30", "m > 30 && m != Integer.MAX_VALUE", "i < m", "i < m && i < 40")
            .slips(towns, "m < 1 || m > 30");
        refusal("28 BAD: THE SEED stays", SETTLED, BAD, YoungestHouse::towns, 0, 31)
            .breaks(towns, "if (m < 1", "seed = seed.add(STEP).mod(WORD); if (m < 1");
        edge("28 m is 1 .. 30: THE SEED is made anew m times", due -> {
            for (int m = 1; m <= 30; m++) {
                YoungestHouse x = townOf(TWO);
                x.seed(-m);
                due.is("towns(" + m + ") is not refused", x.towns(m) < 0 ? 1 : 0, 0);
                due.is("THE SEED", x.seed(0), seedAfter(-m, m));
            }
        }).breaks(towns, "m < 1", "m < 2").breaks(towns, "m > 30", "m > 29").breaks(towns, "i < m", "i < m - 1")
            .breaks(towns, "i < m", "i <= m");
        edge("28 64 bits, wrapping: of the least and of the largest long", due -> {
            long[] seeds = {Long.MIN_VALUE, Long.MAX_VALUE, -1, 1L << 62};
            for (long v : seeds) {
                YoungestHouse x = townOf(TWO);
                x.seed(v);
                x.towns(2);
                due.is("THE SEED of " + v, x.seed(0), seedAfter(v, 2));
            }
        }).breaks(towns, ".mod(WORD)", ".mod(WORD.subtract(BigInteger.ONE))")
            .breaks(towns, ".mod(WORD)", ".min(WORD.subtract(BigInteger.ONE))");
        edge("28 with no TOWN: 0, and THE SEED goes on", due -> {
            YoungestHouse x = new YoungestHouse();
            due.is("towns(30)", x.towns(30), 0);
            due.is("THE SEED", x.seed(0), seedAfter(0, 30));
        }).breaks(towns, "State s = now.copy();", "if (now.places.isEmpty()) return 0; State s = now.copy();")
            .breaks(towns, "then.isKid(pick)", "true");
        idleEdge("28 nothing changes but THE SEED", SETTLED, (x, v) -> {
            x.seed(123);
            x.towns(v);
            return x.seed(77);
        }, 1, 30).breaks(towns, "return changes;", "now = s; return changes;")
            .breaks(towns, "return changes;", "act(); return changes;");
    }

    /** The least seed of 0 and above that has these picks first. */
    private static long seedOf(int... picks) {
        for (long seed = 0; seed < 100000; seed++) {
            int has = 0;
            while (has < picks.length && (seedAfter(seed, has + 1) >>> 33) % 12 == picks[has]) has++;
            if (has == picks.length) return seed;
        }
        throw new IllegalStateException("no such seed");
    }

    private static void picked(Due due, YoungestHouse x, int pick, int want) {
        x.seed(seedOf(pick));
        due.is("pick " + pick, x.towns(1), want);
    }

    private void promise28Picks() {
        String towns = "int towns(";
        edge("28 what is left of its upper 31 bits by 12: 0 .. 6 that CHILD DIES", due -> {
            YoungestHouse x = townOf("YH01H11H01C502C402C312C212C122C022");
            x.bear(0, 2);
            for (int pick = 0; pick < 7; pick++) picked(due, x, pick, 1);
            for (int pick = 7; pick < 12; pick++) picked(due, x, pick, 0);
        }).breaks(towns, "shiftRight(33)", "shiftRight(32)").breaks(towns, "valueOf(12)", "valueOf(11)")
            .breaks(towns, "pick <= 6", "pick < 6");
        edge("28 0 .. 6: if there is such a one", due -> {
            YoungestHouse x = townOf("YH01C500");
            picked(due, x, 0, 1);
            for (int pick = 1; pick < 7; pick++) picked(due, x, pick, 0);
        }).breaks(towns, "then.isKid(pick)", "!then.kids.isEmpty()", "then.kids.get(pick)",
            "then.kids.get(pick % then.kids.size())");
        edge("28 0 .. 6: and it lives", due -> {
            YoungestHouse x = townOf("YH01C500C300");
            x.die(0);
            picked(due, x, 0, 0);
            picked(due, x, 1, 1);
        }).breaks(towns, ".lives = false", ".lives ^= true");
        edge("28 7 .. 9 that less 7 HOUSE is ROLLED", due -> {
            YoungestHouse x = townOf("YH01H11H01C500C400C310C210C120C020");
            for (int pick = 7; pick < 10; pick++) picked(due, x, pick, 1);
            for (int pick = 10; pick < 12; pick++) picked(due, x, pick, 0);
        }).breaks(towns, "pick <= 9", "pick <= 8").breaks(towns, "pick >= 7", "pick >= 8")
            .breaks(towns, "then.places.get(pick - 7).side ^= 1", "then.places.get(pick - 7).side = 1");
        edge("28 7 .. 9: if there is such a one", due -> {
            YoungestHouse x = townOf("YH01C500C300");
            picked(due, x, 7, 1);
            for (int pick = 8; pick < 12; pick++) picked(due, x, pick, 0);
        }).breaks(towns, "then.isPlace(pick - 7)", "!then.places.isEmpty()", "then.places.get(pick - 7)",
            "then.places.get(0)");
        edge("28 upper 31 bits: of a seed whose highest bit is set, too", due -> {
            YoungestHouse x = townOf("YH01C502C402C302C202C102C002");
            x.bear(0, 2);
            for (long seed = 0; seed < 60; seed++) {
                x.seed(seed);
                long pick = (seedAfter(seed, 1) >>> 33) % 12;
                due.is("pick of " + seed, x.towns(1), pick < 7 ? 1 : 0);
            }
        }).breaks(towns, "seed.shiftRight(33)", "BigInteger.valueOf(Math.abs(seed.longValue() >> 33))")
            .breaks(towns, "seed.shiftRight(33)", "BigInteger.valueOf(seed.intValue() >>> 1)");
        edge("28 other HEIRS than before, each time, together", due -> {
            YoungestHouse x = townOf(TWO);
            x.seed(5);
            // The picks are 4 5 10 1 7 11 11 1 2: who would be HEIR of the HOUSE that is ROLLED has died; a DAUGHTER dies.
            due.is("towns(9)", x.towns(9), 1);
            YoungestHouse y = townOf("YH01H11C500C300C712C612");
            y.seed(seedOf(7, 7));
            due.is("ROLLED, and back", y.towns(2), 2);
            y.seed(seedOf(0, 7, 1));
            due.is("the one of the two dies, it is ROLLED, the other dies", y.towns(3), 2);
            y.seed(seedOf(2, 3, 0));
            due.is("of both HOUSES", y.towns(3), 3);
            y.seed(seedOf(11, 7, 10));
            due.is("A YEAR is nothing to HEIRS", y.towns(3), 1);
        }).breaks(towns, "s = then;", "").breaks(towns, "changes++", "changes = 1")
            .breaks(towns, "(s.heirs(h) != then", "(now.heirs(h) != then");
        edge("28 THE SEED goes on from one call to the next, THE TOWN does not", due -> {
            YoungestHouse x = townOf("YH01C500");
            x.seed(seedOf(0));
            due.is("it dies", x.towns(1), 1);
            due.is("THE SEED", x.seed(seedOf(0)), seedAfter(seedOf(0), 1));
            due.is("it dies anew", x.towns(1), 1);
        }).breaks(towns, "return changes;", "now = s; return changes;")
            .breaks(towns, "return changes;", "seed = seed.subtract(BigInteger.ONE); return changes;");
    }
}
