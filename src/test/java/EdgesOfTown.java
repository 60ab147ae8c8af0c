/** Promises 1 to 8: a new object, THE TEXT, its FAULT, THE TOWN, and HEIRS. */
final class EdgesOfTown extends Edges {
    private static final Look.Setup FULL_TEXT = SETTLED.then(x -> {
        for (int i = x.about(8); i < 48; i++) x.write('Y');
    });
    /** The longest TOWN that there is: 3 HOUSES, 6 CHILDREN, 34 bytes. */
    private static final String LONGEST = "YH01H12H09C000C010C020C900C913C923";

    @Override
    void ofPromise(int promise) {
        switch (promise) {
            case 1:
                promise1();
                break;
            case 2:
                promise2();
                break;
            case 3:
                promise3();
                break;
            case 4:
                promise4();
                promise4Figures();
                break;
            case 5:
                promise5();
                promise5Anew();
                break;
            case 6:
                promise6();
                break;
            case 7:
                promise7();
                break;
            case 8:
                promise8();
                promise8Order();
                promise8Kinds();
                break;
            default:
                break;
        }
    }

    private static void faultIs(Due due, String text, int want) {
        YoungestHouse x = new YoungestHouse();
        Look.tell(x, text);
        due.is("fault of " + text, x.fault(), want);
        due.is("town of " + text, x.town() < 0 ? 1 : 0, want == NONE ? 0 : 1);
    }

    private Edge faultEdge(String name, String[] texts, int... faults) {
        return edge(name, due -> {
            for (int i = 0; i < texts.length; i++) faultIs(due, texts[i], faults[i]);
        });
    }

    private void promise1() {
        edge("1 no houses", due -> {
            YoungestHouse x = new YoungestHouse();
            due.is("HOUSES", x.about(0), 0);
            due.is("SIDES", x.about(3), 0);
            due.is("what is INHERITED", x.about(4), 0);
            due.is("heirs(0, 0)", x.heirs(0, 0), UNKNOWN);
        }).breaks("", "private State now = new State();",
            "private State now = new State(); { now.places.add(new Place()); }");
        edge("1 nobody", due -> {
            YoungestHouse x = new YoungestHouse();
            due.is("CHILDREN", x.about(1), 0);
            due.is("who lives", x.about(2), 0);
            due.is("child(0, 0)", x.child(0, 0), UNKNOWN);
        }).breaks("", "private State now = new State();", "private State now = new State(); { now.kids.add(new Kid()); }");
        edge("1 THE TEXT is empty at first", due -> {
            due.is("bytes", new YoungestHouse().about(8), 0);
            due.is("wipe", new YoungestHouse().wipe(), 0);
            due.is("fault", new YoungestHouse().fault(), 0);
        }).breaks("", "private String text = \"\";", "private String text = \"Y\";");
        edge("1 THE YEAR is 0 at first", due -> due.is("THE YEAR", new YoungestHouse().about(5), 0))
            .breaks("", "int year;", "int year = 1;");
        edge("1 no ACTS at first", due -> {
            due.is("ACTS", new YoungestHouse().about(6), 0);
            due.is("undo", new YoungestHouse().undo(), LATE);
        }).breaks("", "ahead = new ArrayDeque<>();", "ahead = new ArrayDeque<>(); { ahead.add(now); }");
        edge("1 none SEEN at first", due -> {
            due.is("SEEN", new YoungestHouse().about(7), 0);
            due.is("unsee", new YoungestHouse().unsee(), 0);
        }).breaks("", "seen = new ArrayList<>();", "seen = new ArrayList<>(); { seen.add(new int[] {0, 0, 1}); }");
        edge("1 THE SEED is 0 at first", due -> due.is("seed", new YoungestHouse().seed(9), 0))
            .breaks("", "seed = BigInteger.ZERO;", "seed = BigInteger.ONE;");
        edge("1 nothing is kept at first", due -> {
            due.is("again(0)", new YoungestHouse().again(0), LATE);
            due.is("again(1)", new YoungestHouse().again(1), LATE);
        }).breaks("", "kept = new State[2];", "kept = {new State(), null};")
            .breaks("", "kept = new State[2];", "kept = {null, new State()};");
    }

    private void promise2() {
        refusal("2 BAD: a byte below 0", SETTLED, BAD, YoungestHouse::write, -1, LOW)
            .lets("int write(", "letter < 0 || letter > 255", "letter");
        refusal("2 BAD: a byte above 255", SETTLED, BAD, YoungestHouse::write, 256, HIGH)
            .lets("int write(", "letter < 0 || letter > 255", "letter");
        edge("2 a byte is 0 .. 255: both are taken", due -> {
            YoungestHouse x = new YoungestHouse();
            due.is("write(0)", x.write(0), 1);
            due.is("write(255)", x.write(255), 2);
        }).breaks("int write(", "letter < 0", "letter < 1").breaks("int write(", "letter > 255", "letter > 254");
        edge("2 how long it is: 1 .. 48", due -> {
            YoungestHouse x = new YoungestHouse();
            for (int i = 1; i <= 48; i++) due.is("write " + i, x.write('Y'), i);
            due.is("bytes", x.about(8), 48);
        }).breaks("int write(", "text.length() == 48", "text.length() == 47")
            .breaks("int write(", "return text.length();", "return text.length() - 1;");
        refusal("2 FULL: there are 48", FULL_TEXT, FULL, YoungestHouse::write, 'Y', 0, 255)
            .lets("int write(", "text.length() == 48", "letter")
            .breaks("int write(", "return FULL;", "{ text = text.substring(1) + \"Y\"; return FULL; }");
        refusal("2 BAD is told ahead of FULL", FULL_TEXT, BAD, YoungestHouse::write, 256, -1)
            .swaps("int write(", "if (letter < 0 || letter > 255) return BAD;", "if (text.length() == 48) return FULL;");
    }

    private void promise3() {
        edge("3 how long it was: 0, when it is empty", due -> {
            YoungestHouse x = Look.made(SETTLED);
            x.wipe();
            due.is("wipe once more", x.wipe(), 0);
            due.is("wipe of a new one", new YoungestHouse().wipe(), 0);
        }).breaks("int wipe(", "return n;", "return n == 0 ? LATE : n;");
        edge("3 how long it was: 48, when it is full", due -> due.is("wipe", Look.made(FULL_TEXT).wipe(), 48))
            .breaks("int wipe(", "return n;", "return Math.min(n, 47);");
        edge("3 THE TEXT is empty: there is room for 48 again", due -> {
            YoungestHouse x = Look.made(FULL_TEXT);
            x.wipe();
            due.is("bytes", x.about(8), 0);
            due.is("fault", x.fault(), 0);
            for (int i = 1; i <= 48; i++) due.is("write " + i, x.write('Y'), i);
        }).breaks("int wipe(", "text = \"\";", "text = text.substring(0, n / 2);");
        edge("3 THE TEXT alone is: THE TOWN and all else stays", due -> {
            Look.Setup wiped = SETTLED.then(YoungestHouse::wipe).then(x -> Look.write(x, TWO + "x"));
            due.holds("as it was", Look.deep(wiped).equals(Look.deep(SETTLED)));
        }).breaks("int wipe(", "text = \"\";", "text = \"\"; now = new State();")
            .breaks("int wipe(", "text = \"\";", "text = \"\"; ahead.clear();")
            .breaks("int wipe(", "text = \"\";", "text = \"\"; seen.clear();");
    }

    private void promise4() {
        faultEdge("4 its length, if it is only not at its end",
            new String[] {"", "YH", "YH0", "YH09C", "YH09C9", "YH09C90", "YH09H"}, 0, 2, 3, 5, 6, 7, 5)
            .breaks("int faultOf(", "isTown(t) ? NONE : t.length()", "NONE")
            .breaks("int faultOf(", "isTown(t) ? NONE : t.length()", "isTown(t) ? NONE : t.length() - 1")
            .breaks("int faultOf(", "isTown(t) ? NONE : t.length()", "isTown(t) || t.isEmpty() ? NONE : t.length()");
        faultEdge("4 the first byte by which it can be no TOWN: the last one, too", new String[] {"YX", "YHX", "YH0X", "X"},
            1, 2, 3, 0).breaks("int faultOf(", "i <= t.length()", "i < t.length()");
        faultEdge("4 whatever came behind it", new String[] {"xYH09", "YxH09", "YH29H09", "YH0909", "YH09CC000"},
            0, 1, 2, 4, 5).breaks("int faultOf(", "return i - 1;", "return t.length();");
        faultEdge("4 a TOWN begins with Y", new String[] {"H09", "y", "X", "\0", "\u00ff", "CY"}, 0, 0, 0, 0, 0, 0)
            .breaks("", "\"Y(H", "\"[YXy](H").breaks("", "\"Y(H", "\"Y?(H");
        faultEdge("4 PARTS, none or more: Y alone, the most", new String[] {"Y", LONGEST}, NONE, NONE)
            .breaks("", "[0-3])*\"", "[0-3])+\"").breaks("", "[0-3])*\"", "[0-3]){0,8}\"");
        edge("4 no other byte begins a PART", due -> {
            for (int letter = 0; letter < 256; letter++) {
                boolean part = letter == 'H' || letter == 'C';
                faultIs(due, "YH09" + (char) letter, part ? 5 : 4);
            }
        }).breaks("", "[0-3])*\"", "[0-3]|\\\\x00)*\"").breaks("", "[0-3])*\"", "[0-3]|\\\\xff)*\"")
            .breaks("", "[0-3])*\"", "[0-3]|Y)*\"");
        faultEdge("4 no TOWN is as long as THE TEXT can be",
            new String[] {"YH09" + "C".repeat(44), LONGEST + "C".repeat(14), LONGEST + "H12H12H12H12HH"}, 5, 34, 34)
            .breaks("boolean isTown(", "kids <= 6", "kids <= 99").breaks("boolean isTown(", "houses <= 3", "houses <= 99");
        idleEdge("4 it is told, and nothing changes", SETTLED, (x, v) -> x.fault(), 0)
            .breaks("int fault()", "return ", "now.year++; return ")
            .breaks("int fault()", "return ", "text = \"\"; return ");
    }

    private void promise4Figures() {
        faultEdge("4 SIDE s is 0 or 1", new String[] {"YH/1", "YH01", "YH11", "YH21", "YH:1"}, 2, NONE, NONE, 2, 2)
            .breaks("", "H[01]", "H[/01]").breaks("", "H[01]", "H[012]").breaks("", "H[01]", "H[0]")
            .breaks("", "H[01]", "H[1]");
        faultEdge("4 WORTH v is 1 .. 9", new String[] {"YH00", "YH01", "YH09", "YH0:"}, 3, NONE, NONE, 3)
            .breaks("", "[1-9]", "[0-9]").breaks("", "[1-9]", "[1-9:]").breaks("", "[1-9]", "[2-9]")
            .breaks("", "[1-9]", "[1-8]");
        faultEdge("4 born b YEARS ago is 0 .. 9", new String[] {"YH01C/00", "YH01C000", "YH01C900", "YH01C:00"},
            5, NONE, NONE, 5)
            .breaks("", "C[0-9]", "C[/0-9]").breaks("", "C[0-9]", "C[0-9:]").breaks("", "C[0-9]", "C[1-9]")
            .breaks("", "C[0-9]", "C[0-8]");
        faultEdge("4 HOUSE h is told ahead",
            new String[] {"YH01C0/0", "YH01C010", "YH01C010H01", "YH01H01C010", "YH01H01C020", "YH01H01H01C020",
                "YH01H01H01C030"},
            6, 6, 6, NONE, 9, NONE, 12)
            .breaks("", "[0-2]", "[/0-2]").breaks("", "[0-2]", "[0-1]").breaks("boolean isTown(", ">= houses", "> houses")
            .breaks("boolean isTown(", "t.charAt(i + 2) - '0' >= houses", "t.charAt(i + 2) >= '3'")
            .breaks("", "[0-2]", "[0-3]", "t.charAt(i + 2) - '0' >= houses", "(t.charAt(i + 2) - '0') % 3 >= houses");
        faultEdge("4 with no HOUSE told no CHILD can be: its C", new String[] {"YC", "YC000", "YC000H01"}, 1, 1, 1)
            .breaks("boolean isTown(", ">= houses", "> houses");
        faultEdge("4 KIND k is 0 .. 3", new String[] {"YH01C00/", "YH01C000", "YH01C003", "YH01C004"}, 7, NONE, NONE, 7)
            .breaks("", "[0-3]", "[/0-3]").breaks("", "[0-3]", "[1-3]").breaks("", "[0-3]", "[0-2]")
            .breaks("", "[0-3]", "[0-4]");
        faultEdge("4 HOUSES are 3 at most: the H of the fourth", new String[] {"YH01H01H01", "YH01H01H01H",
            "YH01C000H01H01H01"},
            NONE, 10, 14).breaks("boolean isTown(", "houses <= 3", "houses <= 2")
            .breaks("boolean isTown(", "houses <= 3", "houses <= 4");
        String six = "YH01" + "C000".repeat(6);
        faultEdge("4 6 are told at most: the C of the seventh", new String[] {six, six + "C", six + "C000", six + "H01C"},
            NONE, 28, 28, 31).breaks("boolean isTown(", "kids <= 6", "kids <= 5")
            .breaks("boolean isTown(", "kids <= 6", "kids <= 7");
    }

    private void promise5() {
        Look.Setup wiped = SETTLED.then(YoungestHouse::wipe);
        refusal("5 LATE: a FAULT, as THE TEXT is empty", wiped, LATE, (x, v) -> x.town(), 0)
            .breaks("int town(", "!isTown(text)", "!text.isEmpty() && !isTown(text)").slips("int town(", "!isTown(text)");
        refusal("5 LATE: a FAULT, the last byte", SETTLED, LATE, (x, v) -> x.town(), 0)
            .breaks("int town(", "if (!isTown(text)) return LATE;",
                "text = text.replace(\"x\", \"\"); if (!isTown(text)) return LATE;")
            .breaks("int town(", "return LATE;", "{ kept[0] = null; return LATE; }").slips("int town(", "!isTown(text)");
        refusal("5 LATE: a FAULT, as it is not at its end", wiped.then(x -> Look.write(x, "YH09C00")), LATE,
            (x, v) -> x.town(), 0)
            .breaks("int town(", "return LATE;", "{ now = new State(); return LATE; }").slips("int town(", "!isTown(text)");
        edge("5 10 times HOUSES, and CHILDREN: 0 of Y alone", due -> {
            YoungestHouse x = Look.made(wiped);
            x.write('Y');
            due.is("town", x.town(), 0);
            aboutIs(due, x, 0, 0, 0, 0, 0, 0, 0, 2, 1);
        }).breaks("int town(", "!isTown(text)", "!isTown(text) || text.length() == 1")
            .breaks("int town(", "now = new State();", "");
        edge("5 10 times HOUSES, and CHILDREN: 36 at most", due -> {
            YoungestHouse x = Look.made(wiped);
            Look.write(x, LONGEST);
            due.is("town", x.town(), 36);
            aboutIs(due, x, 3, 6, 63, 2, 0, 0, 0, 2, 34);
        }).breaks("int town(", "return 10 * ", "return 11 * ")
            .breaks("int town(", "now.places.add(p);", "if (now.places.size() < 2) now.places.add(p);")
            .breaks("int town(", "now.kids.add(k);", "if (now.kids.size() < 5) now.kids.add(k);");
        edge("5 figures at their bounds are read as they are", due -> {
            YoungestHouse x = townOf("YH01H19C000C913");
            int[][] want = {{0, 0, 0, 0, 1}, {9, 1, 3, 0, 1}};
            for (int c = 0; c < 2; c++) {
                for (int what = 0; what < 5; what++) due.is("child(" + c + ", " + what + ")", x.child(c, what),
                    want[c][what]);
            }
            due.is("gets of the least WORTH", x.gets(0), 1);
            due.is("gets of the greatest", x.gets(1), 9);
            due.is("SIDES", x.about(3), 2);
        }).breaks("int town(", "k.age = rest.charAt(1) - '0'", "k.age = Math.min(8, rest.charAt(1) - '0')")
            .breaks("int town(", "p.worth = rest.charAt(2) - '0'", "p.worth = Math.min(8, rest.charAt(2) - '0')")
            .breaks("int town(", "p.worth = rest.charAt(2) - '0'", "p.worth = Math.max(2, rest.charAt(2) - '0')")
            .breaks("int town(", "p.side = rest.charAt(1) - '0'", "p.side = 0")
            .breaks("int town(", "k.kind = rest.charAt(3) - '0'", "k.kind = Math.min(2, rest.charAt(3) - '0')");
    }

    /** SETTLED, all that can be tried out in it, and its TEXT once more made THE TOWN. */
    private static YoungestHouse anew() {
        YoungestHouse x = Look.made(SETTLED.then(y -> y.keep(1)));
        x.rollFor(1, 0);
        x.mend(1);
        x.judge(3, 3000);
        x.towns(30);
        x.seed(77);
        Look.tell(x, TWO);
        x.town();
        return x;
    }

    private void promise5Anew() {
        String town = "int town(";
        String make = "now = new State();";
        String was = "State was = now; int c = 0; now = new State();";
        edge("5 THE TEXT itself stays", due -> {
            YoungestHouse x = anew();
            due.is("bytes", x.about(8), TWO.length());
            due.is("town once more", x.town(), 24);
        }).breaks(town, "String rest = text.substring(1);", "String rest = text.substring(1); text = \"\";");
        edge("5 no ACTS", due -> {
            due.is("ACTS", anew().about(6), 0);
            due.is("undo", anew().undo(), LATE);
        }).breaks(town, "ahead.clear();", "");
        edge("5 what was kept is gone", due -> {
            due.is("again(0)", anew().again(0), LATE);
            due.is("again(1)", anew().again(1), LATE);
        }).breaks(town, "kept[0] = null;", "").breaks(town, "kept[1] = null;", "");
        edge("5 SEEN stays", due -> due.is("SEEN", anew().about(7), 2))
            .breaks(town, "ahead.clear();", "ahead.clear(); seen.clear();");
        edge("5 THE SEED stays", due -> due.is("seed", anew().seed(0), 77))
            .breaks(town, "ahead.clear();", "ahead.clear(); seed = BigInteger.ZERO;");
        edge("5 HOUSES and CHILDREN of before are none any more", due -> {
            due.is("HOUSES", anew().about(0), 2);
            due.is("CHILDREN", anew().about(1), 4);
            due.is("child(4, 0)", anew().child(4, 0), UNKNOWN);
        }).breaks(town, make, "").breaks(town, make, "List<Kid> kids = now.kids; now = new State(); now.kids = kids;");
        edge("5 when it is made anew, all CHILDREN live", due -> due.is("who lives", anew().about(2), 15))
            .breaks(town, make, was, "now.kids.add(k);", "k.lives = was.lives(c++); now.kids.add(k);");
        edge("5 when it is made anew, no HOUSE is INHERITED", due -> {
            due.is("INHERITED", anew().about(4), 0);
            due.is("inherit(1)", anew().inherit(1), 12);
        }).breaks(town, make, was, "now.places.add(p);", "p.inherited = was.places.get(c++).inherited; now.places.add(p);");
        edge("5 when it is made anew, nobody HAS anything", due -> {
            for (int c = 0; c < 4; c++) due.is("child(" + c + ", 3)", anew().child(c, 3), 0);
        }).breaks(town, make, was, "now.kids.add(k);", "k.has = was.kids.get(c++).has; now.kids.add(k);");
        edge("5 when it is made anew, THE YEAR is 0", due -> {
            due.is("THE YEAR", anew().about(5), 0);
            due.is("AGE", anew().child(0, 0), 5);
        }).breaks(town, make, was + " now.year = was.year;")
            .breaks(town, make, was, "now.kids.add(k);", "k.age += was.year; now.kids.add(k);");
        edge("5 SIDES and HOUSES of CHILDREN are as they are told", due -> {
            YoungestHouse x = Look.made(SETTLED.then(y -> y.roll(0)));
            Look.tell(x, TWO);
            x.town();
            due.is("SIDES", x.about(3), 2);
            due.is("child(1, 1)", x.child(1, 1), 0);
        }).breaks(town, make, was, "now.places.add(p);", "p.side = was.places.get(c++).side; now.places.add(p);")
            .breaks(town, make, was, "now.kids.add(k);", "k.house = was.kids.get(c++).house; now.kids.add(k);");
    }

    /** BAD: one of WHAT there is not; by the default of the method's switch. */
    private void badWhat(int promise, String head, int first, Call call) {
        for (int v : new int[] {-1, LOW, first, HIGH}) {
            refusal(promise + " BAD: what is " + v, SETTLED, BAD, call, v)
                .breaks(head, "return BAD;", "return what == " + v + " ? 0 : BAD;")
                .breaks(head, "return BAD;", "now.year++; return BAD;");
        }
    }

    private void promise6() {
        badWhat(6, "int about(", 9, YoungestHouse::about);
        edge("6 with nothing there yet each is 0", due -> {
            aboutIs(due, new YoungestHouse(), 0, 0, 0, 0, 0, 0, 0, 0, 0);
            aboutIs(due, townOf("Y"), 0, 0, 0, 0, 0, 0, 0, 0, 1);
        }).breaks("int about(", "case 0:", "case 0: if (now.places.isEmpty()) return NONE;")
            .breaks("int about(", "case 1:", "case 1: if (now.kids.isEmpty()) return NONE;")
            .breaks("int about(", "case 2:", "case 2: if (now.kids.isEmpty()) return NONE;")
            .breaks("int about(", "case 7:", "case 7: if (seen.isEmpty()) return NONE;")
            .breaks("int about(", "case 8:", "case 8: if (text.isEmpty()) return NONE;");
        promise6Most();
        for (int what = 0; what < 9; what++) {
            int of = what;
            idleEdge("6 it is told, and nothing changes: " + what, SETTLED, YoungestHouse::about, what)
                .breaks("int about(", "int bits = 0;", "int bits = 0; if (what == " + of + ") now.year++;");
        }
    }

    private void promise6Most() {
        edge("6 the most that there can be of each", due -> {
            YoungestHouse x = townOf("YH11H19H15C000C000C010C010C020");
            x.bear(0, 0);
            x.bear(2, 0);
            for (int h = 0; h < 3; h++) x.inherit(h);
            for (int i = 0; i < 20; i++) x.year();
            for (int i = 0; i < 7; i++) x.see(0, 0, 127);
            for (int i = 0; i < 48; i++) x.write(255);
            aboutIs(due, x, 3, 7, 127, 7, 7, 20, 14, 6, 48);
        }).breaks("int about(", "return now.places.size()", "return Math.min(2, now.places.size())")
            .breaks("int about(", "return now.kids.size()", "return Math.min(6, now.kids.size())")
            .breaks("int about(", "now.kids.get(c).lives ? 1 << c : 0", "now.kids.get(c).lives && c < 6 ? 1 << c : 0")
            .breaks("int about(", "now.places.get(h).side << h", "now.places.get(h).side << h % 2")
            .breaks("int about(", "now.places.get(h).inherited ? 1 << h : 0",
                "now.places.get(h).inherited && h < 2 ? 1 << h : 0")
            .breaks("int about(", "return now.year", "return Math.min(9, now.year)")
            .breaks("int about(", "return ahead.size()", "return Math.min(13, ahead.size())")
            .breaks("int about(", "return seen.size()", "return Math.min(5, seen.size())")
            .breaks("int about(", "return text.length()", "return Math.min(47, text.length())")
            .breaks("void act()", "ahead.size() == 14", "ahead.size() == 15")
            .breaks("int see(", "seen.size() == 6", "seen.size() == 7");
    }

    private void promise7() {
        String child = "int child(";
        noSuchChild(7, child, (x, v) -> x.child(v, 0));
        badWhat(7, child, 5, (x, v) -> x.child(0, v));
        refusal("7 UNKNOWN is told ahead of BAD", SETTLED, UNKNOWN, (x, v) -> x.child(6, v), 5, -1)
            .breaks(child, "if (!now", "if (what < 0 || what > 4) return BAD; if (!now");
        edge("7 the first and the last CHILD are known", due -> {
            YoungestHouse x = Look.made(SEVEN);
            due.is("child(0, 0)", x.child(0, 0), 9);
            due.is("child(6, 0)", x.child(6, 0), 0);
        }).breaks("boolean isKid(", "c >= 0", "c > 0").breaks("boolean isKid(", "c < kids.size()", "c < 6");
        edge("7 AGE: a YEAR more each YEAR, also of one that is dead", due -> {
            YoungestHouse x = townOf(TWO);
            x.die(0);
            x.year();
            due.is("AGE of a dead one", x.child(0, 0), 6);
            due.is("it does not live", x.child(0, 4), 0);
        }).breaks("void aYear(", "k.age++", "if (k.lives) k.age++").breaks(child, "k.lives ? 1 : 0", "k.lives ? 1 : LATE");
        edge("7 AGE is not held at 9", due -> {
            YoungestHouse x = townOf("YH01C900C000");
            for (int i = 0; i < 120; i++) x.year();
            due.is("AGE of the older one", x.child(0, 0), 129);
            due.is("AGE of the younger one", x.child(1, 0), 120);
        }).breaks("void aYear(", "k.age++", "k.age = Math.min(9, k.age + 1)")
            .breaks("void aYear(", "k.age++", "k.age = Math.min(127, k.age + 1)");
        edge("7 it HAS 0 at first", due -> due.is("child(0, 3)", townOf(TWO).child(0, 3), 0))
            .breaks("", "kind, has;", "kind, has = 1;");
        for (int what = 0; what < 5; what++) {
            int of = what;
            idleEdge("7 it is told, and nothing changes: " + what, SETTLED, (x, v) -> x.child(1, v), what)
                .breaks(child, "Kid k =", "if (what == " + of + ") now.year++; Kid k =");
        }
    }

    private void promise8() {
        String heirs = "int heirs(int house";
        noSuchHouse(8, heirs, (x, v) -> x.heirs(v, 0));
        refusal("8 BAD: a SIDE below 0", SETTLED, BAD, (x, v) -> x.heirs(0, v), -1, LOW)
            .lets(heirs, "side < 0 || side > 2", "side");
        refusal("8 BAD: a SIDE above 2", SETTLED, BAD, (x, v) -> x.heirs(1, v), 3, HIGH)
            .lets(heirs, "side < 0 || side > 2", "side");
        refusal("8 UNKNOWN is told ahead of BAD", SETTLED, UNKNOWN, (x, v) -> x.heirs(2, v), 3, -1)
            .swaps(heirs, "if (!now.isPlace(house)) return UNKNOWN;", "if (side < 0 || side > 2) return BAD;");
        edge("8 SIDE 2 is its own, as it is then", due -> {
            YoungestHouse x = townOf("YH09H15C500C300C510C310");
            due.is("of SIDE 0", x.heirs(0, 2), 1);
            due.is("of SIDE 1", x.heirs(1, 2), 8);
            x.roll(0);
            x.roll(1);
            due.is("rolled to 1", x.heirs(0, 2), 2);
            due.is("rolled to 0", x.heirs(1, 2), 4);
        }).breaks(heirs, "side == 2 ? now.places.get(house).side : side", "side % 2")
            .breaks(heirs, "side == 2 ? now.places.get(house).side : side", "side == 2 ? 1 : side");
        edge("8 nobody: there are no CHILDREN of it", due -> {
            YoungestHouse x = townOf("YH09H15C510");
            for (int side = 0; side < 3; side++) due.is("heirs(0, " + side + ")", x.heirs(0, side), 0);
        }).breaks("int heirs(int h, int side", "adopted.isEmpty() ? 0", "adopted.isEmpty() ? NONE")
            .breaks("int heirs(int h, int side", "k.house != h || ", "");
        edge("8 nobody: none of them lives", due -> {
            YoungestHouse x = townOf("YH09C500C302C103");
            for (int c = 0; c < 3; c++) x.die(c);
            for (int side = 0; side < 3; side++) due.is("heirs(0, " + side + ")", x.heirs(0, side), 0);
        }).breaks("int heirs(int h, int side", " || !alive.test(c)", "");
        for (int side = 0; side < 3; side++) {
            int of = side;
            idleEdge("8 they are told, and nothing changes: " + side, SETTLED, (x, v) -> x.heirs(0, v), side)
                .breaks(heirs, "return now.heirs", "if (side == " + of + ") now.year++; return now.heirs");
        }
    }

    private Edge heirsEdge(String name, String town, int bySide0, int bySide1) {
        return edge(name, due -> {
            due.is("heirs(0, 0) of " + town, townOf(town).heirs(0, 0), bySide0);
            due.is("heirs(0, 1) of " + town, townOf(town).heirs(0, 1), bySide1);
        });
    }

    private void promise8Order() {
        String order = "int byAge(";
        String all = "int heirs(int h, int side";
        heirsEdge("8 the oldest son, the youngest son", "YH01C300C900C000C500", 2, 4)
            .breaks(order, "y.age - x.age", "x.age - y.age");
        heirsEdge("8 one alone is the oldest and the youngest", "YH01C300", 1, 1)
            .breaks(all, "sons.size() - 1", "Math.max(1, sons.size() - 1)");
        heirsEdge("8 of one AGE a TWIN is the older one, told behind", "YH01C400C401", 2, 1)
            .breaks(order, "if (x.kind == 1 && y.kind != 1) return -1;", "",
                "if (y.kind == 1 && x.kind != 1) return 1;", "");
        heirsEdge("8 of one AGE a TWIN is the older one, told ahead", "YH01C401C400", 1, 2)
            .breaks(order, "y.kind != 1) return -1;", "y.kind != 1) return 1;", "x.kind != 1) return 1;",
                "x.kind != 1) return -1;");
        heirsEdge("8 of another AGE a TWIN is not the older one", "YH01C500C401C300", 1, 4)
            .breaks(order, "if (x.age != y.age) return y.age - x.age;",
                "if (x.age != y.age && x.kind == y.kind) return y.age - x.age;");
        heirsEdge("8 if both are TWINS, the one of the lesser number is the older", "YH01C401C401C401", 1, 4)
            .breaks(order, "return a - b;", "return x.kind == 1 ? b - a : a - b;");
        heirsEdge("8 if neither is, the one of the lesser number is the older", "YH01C400C400C400", 1, 4)
            .breaks(order, "return a - b;", "return x.kind == 1 ? a - b : b - a;");
        heirsEdge("8 the youngest: no other son is younger by that", "YH01C400C401C401C400C401", 2, 8)
            .breaks(all, "sons.get(side == 0 ? 0 : sons.size() - 1)",
                "sons.get(side == 0 ? 0 : Math.max(0, sons.size() - 2))");
    }

    private void promise8Kinds() {
        String all = "int heirs(int h, int side";
        heirsEdge("8 TWINS are sons", "YH01C501C902C903", 1, 1).breaks(all, "k.kind < 2", "k.kind < 1");
        heirsEdge("8 a son of AGE 0 goes ahead of a DAUGHTER of 9", "YH01C902C000C903", 2, 2)
            .breaks(all, "!sons.isEmpty()", "!sons.isEmpty() && daughters == 0");
        heirsEdge("8 if there are no sons: all DAUGHTERS, by each SIDE", "YH01C902C402C402C002C903", 15, 15)
            .breaks(all, "return daughters;", "return Integer.highestOneBit(daughters);")
            .breaks(all, "return daughters;", "return side == 0 ? daughters : Integer.lowestOneBit(daughters);");
        heirsEdge("8 one DAUGHTER goes ahead of ADOPTED ones", "YH01C903C002C003", 2, 2)
            .breaks(all, "daughters != 0", "daughters != 0 && adopted.isEmpty()");
        heirsEdge("8 if there are none: the oldest ADOPTED one, by each SIDE", "YH01C303C903C003", 2, 2)
            .breaks(all, "adopted.get(0)", "adopted.get(side == 0 ? 0 : adopted.size() - 1)");
        heirsEdge("8 of ADOPTED ones of one AGE the one of the lesser number", "YH01C403C403", 1, 1)
            .breaks("int byAge(", "return a - b;", "return x.kind == 3 ? b - a : a - b;");
        edge("8 of CHILDREN that live: who is dead is in nobody's way", due -> {
            YoungestHouse x = townOf("YH01C500C302C103");
            x.die(0);
            due.is("no son lives", x.heirs(0, 0), 2);
            x.die(1);
            due.is("no DAUGHTER lives", x.heirs(0, 1), 4);
        }).breaks("int heirs(int h, int side", " || !alive.test(c)", "")
            .breaks("int heirs(int h, int side", "!alive.test(c)", "k.kind == 2 && !alive.test(c)");
    }
}
