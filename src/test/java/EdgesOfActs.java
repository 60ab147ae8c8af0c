/** Promises 9 to 15: BORN, DIES, MOVED, ROLLED, INHERITED, A YEAR, and all undone. */
final class EdgesOfActs extends Edges {
    @Override
    void ofPromise(int promise) {
        switch (promise) {
            case 9:
                promise9();
                promise9Full();
                break;
            case 10:
                promise10();
                break;
            case 11:
                promise11();
                break;
            case 12:
                promise12();
                break;
            case 13:
                promise13();
                promise13Late();
                break;
            case 14:
                promise14();
                break;
            case 15:
                promise15();
                promise15Full();
                promise15Each();
                break;
            default:
                break;
        }
    }

    private void promise9() {
        String bear = "int bear(";
        String unknown = "if (!now.isPlace(house)) return UNKNOWN;";
        String bad = "if (kind < 0 || kind > 3) return BAD;";
        String full = "if (now.kids.size() == 7) return FULL;";
        noSuchHouse(9, bear, (x, v) -> x.bear(v, 0));
        refusal("9 BAD: a KIND below 0", SETTLED, BAD, (x, v) -> x.bear(1, v), -1, LOW)
            .lets(bear, "kind < 0 || kind > 3", "kind");
        refusal("9 BAD: a KIND above 3", SETTLED, BAD, (x, v) -> x.bear(1, v), 4, HIGH)
            .lets(bear, "kind < 0 || kind > 3", "kind");
        refusal("9 UNKNOWN is told ahead of BAD", SETTLED, UNKNOWN, (x, v) -> x.bear(2, v), 4, -1).swaps(bear, unknown, bad);
        refusal("9 UNKNOWN is told ahead of FULL", SEVEN, UNKNOWN, (x, v) -> x.bear(v, 0), 2, -1).swaps(bear, unknown, full);
        refusal("9 BAD is told ahead of FULL", SEVEN, BAD, (x, v) -> x.bear(0, v), 4, -1).swaps(bear, bad, full);
        edge("9 KINDS are 0 .. 3: each is taken", due -> {
            YoungestHouse x = townOf("YH01");
            for (int kind = 0; kind < 4; kind++) {
                due.is("bear(0, " + kind + ")", x.bear(0, kind), kind);
                due.is("KIND", x.child(kind, 2), kind);
            }
        }).breaks(bear, "kind < 0", "kind < 1").breaks(bear, "kind > 3", "kind > 2");
        edge("9 the last HOUSE, too", due -> {
            YoungestHouse x = townOf("YH01H01H01");
            due.is("bear(2, 0)", x.bear(2, 0), 0);
            due.is("its HOUSE", x.child(0, 1), 2);
        }).breaks("boolean isPlace(", "h < places.size()", "h < Math.min(2, places.size())");
    }

    private void promise9Full() {
        String bear = "int bear(";
        refusal("9 FULL: there are 7", SEVEN, FULL, (x, v) -> x.bear(1, v), 0, 3).lets(bear, "now.kids.size() == 7", "kind");
        refusal("9 FULL: those that are dead are there, too", SEVEN, FULL, (x, v) -> x.bear(1, v), 2)
            .breaks(bear, "now.kids.size() == 7", "Integer.bitCount(about(2)) == 7").slips(bear, "now.kids.size() == 7");
        edge("9 its number: 0 when there was nobody, 6 the last", due -> {
            YoungestHouse x = townOf("YH01");
            for (int i = 0; i < 7; i++) due.is("bear", x.bear(0, 0), i);
            due.is("CHILDREN", x.about(1), 7);
        }).breaks(bear, "now.kids.size() == 7", "now.kids.size() == 6")
            .breaks(bear, "return now.kids.size() - 1", "return now.kids.size()");
        edge("9 6 are told at most, the seventh is born", due -> {
            YoungestHouse x = townOf("YH01" + "C000".repeat(6));
            due.is("bear", x.bear(0, 1), 6);
            due.is("the oldest of one AGE", x.heirs(0, 0), 64);
        }).breaks(bear, "now.kids.size() == 7", "now.kids.size() == 6");
        edge("9 of AGE 0, whatever THE YEAR is", due -> {
            YoungestHouse x = Look.made(SETTLED);
            x.bear(1, 2);
            due.is("its AGE", x.child(6, 0), 0);
            x.year();
            due.is("its AGE a YEAR later", x.child(6, 0), 1);
        }).breaks(bear, "k.house = house;", "k.house = house; k.age = now.year;")
            .breaks(bear, "k.house = house;", "k.house = house; k.age = 1;");
        edge("9 it lives and HAS nothing, whatever one of that number did", due -> {
            YoungestHouse x = townOf("YH01H09C500");
            x.bear(1, 0);
            x.inherit(1);
            x.die(1);
            for (int i = 0; i < 3; i++) x.undo();
            due.is("bear", x.bear(0, 2), 1);
            int[] want = {0, 0, 2, 0, 1};
            for (int what = 0; what < 5; what++) due.is("child(1, " + what + ")", x.child(1, what), want[what]);
        }).breaks(bear, "k.house = house;", "k.house = house; k.lives = false;")
            .breaks(bear, "k.house = house;", "k.house = house; k.has = 9;");
    }

    private void promise10() {
        String die = "int die(";
        noSuchChild(10, die, YoungestHouse::die);
        refusal("10 UNKNOWN is told ahead of LATE: who there is not does not live", SETTLED, UNKNOWN, YoungestHouse::die, 6, -1)
            .swaps(die, "if (!now.isKid(child)) return UNKNOWN;", "if (!now.lives(child)) return LATE;");
        refusal("10 LATE: it does not live", SETTLED, LATE, YoungestHouse::die, 0, 3)
            .lets(die, "!now.lives(child)", "child");
        edge("10 how many live: 0 when the last one dies", due -> {
            YoungestHouse x = townOf("YH01C500C300");
            due.is("die(1)", x.die(1), 1);
            due.is("die(0)", x.die(0), 0);
            due.is("who lives", x.about(2), 0);
        }).breaks(die, "return live;", "return live == 0 ? LATE : live;").breaks(die, "int live = 0;", "int live = 1;");
        edge("10 how many live: 6 when the first of 7 does", due -> {
            YoungestHouse x = townOf("YH01" + "C000".repeat(6));
            x.bear(0, 0);
            due.is("die(6)", x.die(6), 6);
            due.is("who lives", x.about(2), 63);
        }).breaks("boolean isKid(", "c < kids.size()", "c < 6").breaks(die, "return live;", "return Math.min(5, live);");
    }

    private void promise11() {
        String move = "int move(";
        noSuchChild(11, move, (x, v) -> x.move(v, 0));
        noSuch("11 UNKNOWN: a HOUSE", move, "!now.isPlace(house)", "house", 2, (x, v) -> x.move(1, v));
        refusal("11 UNKNOWN: nothing there yet", NEW, UNKNOWN, (x, v) -> x.move(v, v), 0)
            .breaks(move, "!now.isKid(child) || !now.isPlace(house)", "child != 0")
            .slips(move, "!now.isKid(child) || !now.isPlace(house)");
        refusal("11 LATE: it is of that one", SETTLED, LATE, (x, v) -> x.move(v, x.child(v, 1)), 0, 1, 4)
            .lets(move, "from == house", "child");
        refusal("11 LATE: it is of that one, though it is dead", SETTLED, LATE, (x, v) -> x.move(v, 1), 3)
            .lets(move, "from == house", "child");
        edge("11 one that is dead is MOVED, too", due -> {
            YoungestHouse x = Look.made(SETTLED);
            due.is("move(3, 0)", x.move(3, 0), 1);
            due.is("its HOUSE", x.child(3, 1), 0);
        }).breaks(move, "from == house", "from == house || !now.lives(child)");
        edge("11 from an INHERITED HOUSE and into one", due -> {
            YoungestHouse x = Look.made(SETTLED);
            due.is("move(4, 1)", x.move(4, 1), 0);
            due.is("move(5, 0)", x.move(5, 0), 1);
        }).breaks(move, "from == house", "from == house || now.places.get(house).inherited")
            .breaks(move, "from == house", "from == house || now.places.get(from).inherited");
    }

    private void promise12() {
        String roll = "int roll(";
        noSuchHouse(12, roll, YoungestHouse::roll);
        edge("12 the SIDE it is on: 0 and 1 by turns, of the first and of the last HOUSE", due -> {
            YoungestHouse x = townOf("YH01H01H19");
            due.is("roll(0)", x.roll(0), 1);
            due.is("roll(2)", x.roll(2), 0);
            due.is("SIDES", x.about(3), 1);
            due.is("roll(0)", x.roll(0), 0);
            due.is("roll(2)", x.roll(2), 1);
            due.is("SIDES", x.about(3), 4);
        }).breaks(roll, "1 - now.places.get(house).side", "1").breaks(roll, "1 - now.places.get(house).side", "0")
            .breaks("boolean isPlace(", "h < places.size()", "h < Math.min(2, places.size())");
        edge("12 an INHERITED one is ROLLED, too, and one with nobody in it", due -> {
            due.is("roll(1)", Look.made(SETTLED).roll(1), 0);
            due.is("roll(0) of nobody", townOf("YH01").roll(0), 1);
        }).breaks(roll, "!now.isPlace(house)", "!now.isPlace(house) || now.places.get(house).inherited")
            .breaks(roll, "!now.isPlace(house)", "!now.isPlace(house) || now.heirs(house) == 0");
    }

    private void promise13() {
        String inherit = "int inherit(";
        noSuchHouse(13, inherit, YoungestHouse::inherit);
        edge("13 their WORTH by their number is cut", due -> {
            YoungestHouse x = townOf("YH05C502C402");
            due.is("inherit(0)", x.inherit(0), 3);
            due.is("of the one", x.child(0, 3), 2);
            due.is("of the other", x.child(1, 3), 2);
        }).breaks("boolean inherit(", "places.get(h).worth / Integer.bitCount(heirs)",
            "(places.get(h).worth + 1) / Integer.bitCount(heirs)")
            .breaks("boolean inherit(", "places.get(h).worth / Integer.bitCount(heirs)", "places.get(h).worth");
        edge("13 it is cut to 0, and is INHERITED", due -> {
            YoungestHouse x = townOf("YH06" + "C002".repeat(6));
            x.bear(0, 2);
            due.is("inherit(0)", x.inherit(0), 127);
            for (int c = 0; c < 7; c++) due.is("child(" + c + ", 3)", x.child(c, 3), 0);
            due.is("INHERITED", x.about(4), 1);
        }).breaks("boolean inherit(", "places.get(h).worth / Integer.bitCount(heirs)",
            "Math.max(1, places.get(h).worth / Integer.bitCount(heirs))")
            .breaks("boolean inherit(", "places.get(h).inherited = true",
                "places.get(h).inherited = places.get(h).worth >= Integer.bitCount(heirs)");
        edge("13 it HAS that more: of 3 HOUSES in all", due -> {
            YoungestHouse x = townOf("YH09H19H09C500");
            for (int h = 0; h < 3; h++) {
                due.is("inherit(" + h + ")", x.inherit(h), 1);
                due.is("it HAS", x.child(0, 3), 9 * h + 9);
                x.move(0, Math.min(2, h + 1));
            }
            due.is("INHERITED", x.about(4), 7);
        }).breaks("boolean inherit(", "has +=", "has =");
    }

    private void promise13Late() {
        String inherit = "int inherit(";
        String so = "now.places.get(house).inherited";
        refusal("13 LATE: it is so", SETTLED, LATE, YoungestHouse::inherit, 1).lets(inherit, so, "house")
            .breaks(inherit, so, "house != 1", "now.inherit(house);",
                "now.places.get(house).inherited = false; now.inherit(house);");
        refusal("13 LATE: it is so once, though others are HEIRS by then",
            Look.town("YH09C500C300").then(x -> {
                x.inherit(0);
                x.die(0);
                x.roll(0);
            }), LATE, YoungestHouse::inherit, 0).lets(inherit, so, "house").breaks(inherit, so, so + " && (heirs & 1) == 1");
        refusal("13 LATE: there is no HEIR, as there are no CHILDREN of it", Look.town("YH09H05C510"), LATE,
            YoungestHouse::inherit, 0)
            .lets(inherit, "heirs == 0", "house");
        refusal("13 LATE: there is no HEIR, as none lives",
            Look.town("YH09H05C500C302C103").then(x -> {
                for (int c = 0; c < 3; c++) x.die(c);
            }), LATE, YoungestHouse::inherit, 0, 1).lets(inherit, "heirs == 0", "house");
    }

    private void promise14() {
        String year = "int year()";
        edge("14 with no TOWN: 1", due -> {
            YoungestHouse x = new YoungestHouse();
            due.is("year", x.year(), 1);
            due.is("THE YEAR", x.about(5), 1);
            due.is("ACTS", x.about(6), 1);
        }).breaks(year, "act();", "if (now.places.isEmpty()) return LATE; act();");
        edge("14 THE YEAR is one more, however many there were", due -> {
            // As many calls as an object is used for.
            YoungestHouse x = new YoungestHouse();
            for (int i = 1; i <= 512; i++) due.is("year", x.year(), i);
        }).breaks(year, "return now.year;", "return now.year % 256;")
            .breaks("void aYear(", "year++;", "year = Math.min(511, year + 1);");
        edge("14 it is an ACT", due -> {
            YoungestHouse x = townOf(TWO);
            x.year();
            due.is("ACTS", x.about(6), 1);
            due.is("undo", x.undo(), 0);
            due.is("THE YEAR", x.about(5), 0);
        }).breaks(year, "act();", "");
    }

    private void promise15() {
        String undo = "int undo(";
        Call call = (x, v) -> x.undo();
        String none = "ahead.isEmpty()";
        refusal("15 LATE: there is none at first", NEW, LATE, call, 0).lets(undo, none, "0").slips(undo, none);
        refusal("15 LATE: there is none in a TOWN made anew", Look.town(TWO), LATE, call, 0).slips(undo, none)
            .breaks("int town(", "ahead.clear();", "ahead.clear(); act();");
        refusal("15 LATE: there is none when all are undone", Look.town(TWO).then(x -> {
            for (int i = 0; i < 20; i++) x.year();
            for (int i = 0; i < 14; i++) x.undo();
        }), LATE, call, 0).slips(undo, none).breaks("void act()", "ahead.size() == 14", "ahead.size() == 15");
        refusal("15 LATE: there is none when one goes on from a SLOT", SETTLED.then(x -> x.again(0)), LATE, call, 0)
            .slips(undo, none)
            .breaks("int again(", "ahead.clear();", "");
        edge("15 how many are left: 0 when there was one", due -> {
            YoungestHouse x = townOf(TWO);
            x.roll(0);
            due.is("undo", x.undo(), 0);
            due.is("ACTS", x.about(6), 0);
        }).breaks(undo, "return ahead.size();", "return ahead.isEmpty() ? LATE : ahead.size();")
            .breaks(undo, "return ahead.size();", "return ahead.size() + 1;");
        edge("15 what is refused is no ACT", due -> {
            YoungestHouse x = townOf(TWO);
            due.is("bear", x.bear(0, 4), BAD);
            due.is("die", x.die(4), UNKNOWN);
            due.is("move", x.move(0, 0), LATE);
            due.is("roll", x.roll(2), UNKNOWN);
            due.is("inherit", x.inherit(2), UNKNOWN);
            due.is("ACTS", x.about(6), 0);
        }).breaks("int move(", "from == house", "from == house && ahead.add(now)")
            .breaks("int roll(", "!now.isPlace(house)", "!now.isPlace(house) && ahead.add(now)");
        edge("15 THE TEXT, SEEN, THE SEED and what is kept are as before", due -> {
            YoungestHouse x = townOf(TWO);
            x.die(0);
            x.die(1);
            x.write('x');
            x.see(0, 0, 1);
            x.seed(5);
            x.keep(1);
            due.is("undo", x.undo(), 1);
            due.is("fault", x.fault(), TWO.length());
            due.is("SEEN", x.about(7), 1);
            due.is("again", x.again(1), 0);
            due.is("who lives, as was kept", x.about(2), 12);
            due.is("seed", x.seed(0), 5);
        }).breaks(undo, "return ahead", "text = \"\"; return ahead")
            .breaks(undo, "return ahead", "seen.clear(); return ahead")
            .breaks(undo, "return ahead", "seed = BigInteger.ZERO; return ahead")
            .breaks(undo, "return ahead", "kept[1] = null; return ahead")
            .breaks(undo, "return ahead", "kept[1] = now; return ahead");
    }

    /** A town with so many of 17 ACTS of all kinds, each of which changes something. */
    private static Look.Setup mixed(int acts) {
        Look.Setup[] all = {YoungestHouse::year, x -> x.roll(1), x -> x.roll(2), x -> x.move(3, 0), x -> x.inherit(1),
            x -> x.die(0),
            YoungestHouse::year, x -> x.roll(1), x -> x.bear(0, 1), x -> x.inherit(0), x -> x.move(1, 2), x -> x.die(2),
            x -> x.bear(1, 2), x -> x.roll(2), x -> x.inherit(2), x -> x.move(4, 1), x -> x.die(1)};
        Look.Setup setup = Look.town("YH09H15H13C500C300C712C812");
        for (int i = 0; i < acts; i++) setup = setup.then(all[i]);
        return setup;
    }

    private void promise15Full() {
        String act = "void act()";
        edge("15 a row of 14: the fourteenth forgets none", due -> {
            YoungestHouse x = townOf(TWO);
            for (int i = 1; i <= 14; i++) {
                x.year();
                due.is("ACTS", x.about(6), i);
            }
            for (int i = 13; i >= 0; i--) due.is("undo", x.undo(), i);
            due.is("THE YEAR", x.about(5), 0);
            due.is("undo", x.undo(), LATE);
        }).breaks(act, "ahead.size() == 14", "ahead.size() == 13");
        edge("15 when it is full, the first one is forgotten", due -> {
            YoungestHouse x = townOf(TWO);
            x.die(0);
            for (int i = 0; i < 14; i++) x.year();
            due.is("ACTS", x.about(6), 14);
            for (int i = 13; i >= 0; i--) due.is("undo", x.undo(), i);
            due.is("undo", x.undo(), LATE);
            due.is("who lives", x.about(2), 14);
            due.is("THE YEAR", x.about(5), 0);
        }).breaks(act, "ahead.size() == 14", "ahead.size() == 15").breaks(act, "ahead.removeFirst()", "ahead.removeLast()")
            .breaks(act, "ahead.removeFirst()", "ahead.clear()")
            .breaks(act, "ahead.size() == 14", "ahead.size() == 14) return; if (false");
        edge("15 of many, all but the last 14 are forgotten", due -> {
            YoungestHouse x = townOf(TWO);
            for (int i = 0; i < 100; i++) x.year();
            due.is("ACTS", x.about(6), 14);
            for (int i = 13; i >= 0; i--) due.is("undo", x.undo(), i);
            due.is("THE YEAR", x.about(5), 86);
        }).breaks(act, "ahead.size() == 14", "ahead.size() == 15").breaks(act, "ahead.removeFirst()", "ahead.removeLast()");
        edge("15 when it is full, the last 14 are undone as if there had been room", due -> {
            for (int undone = 1; undone <= 14; undone++) {
                YoungestHouse x = Look.made(mixed(17));
                for (int i = 1; i <= undone; i++) due.is("undo", x.undo(), 14 - i);
                due.holds("as it was " + undone + " before",
                    Look.state(x).equals(Look.state(Look.made(mixed(17 - undone)))));
            }
        }).breaks(act, "ahead.removeFirst()", "ahead.removeLast()")
            .breaks("int undo(", "now = ahead.removeLast();", "now = ahead.removeFirst();");
        edge("15 there is room again for what was undone", due -> {
            YoungestHouse x = townOf(TWO);
            x.roll(0);
            for (int i = 0; i < 13; i++) x.year();
            for (int i = 0; i < 5; i++) x.undo();
            for (int i = 0; i < 5; i++) x.roll(1);
            due.is("ACTS", x.about(6), 14);
            for (int i = 13; i >= 0; i--) due.is("undo", x.undo(), i);
            due.is("SIDES", x.about(3), 2);
        }).breaks(act, "ahead.size() == 14", "ahead.size() >= 10");
    }

    /** Undone, one ACT leaves all as it was, and the ACT before it can be undone. */
    private Edge undone(String name, Look.Setup act, String left) {
        return edge("15 undone: " + name, due -> {
            Look.Setup before = Look.town(TWO).then(x -> {
                x.year();
                x.roll(1);
                x.inherit(1);
            });
            YoungestHouse done = Look.made(before.then(act));
            due.is("ACTS", done.about(6), 4);
            due.is("undo", done.undo(), 3);
            due.holds("as it was", Look.deep(before.then(act).then(YoungestHouse::undo)).equals(Look.deep(before)));
        }).breaks("int undo(", "now = ahead.removeLast();", "State was = now; now = ahead.removeLast(); " + left);
    }

    private void promise15Each() {
        String eachKid = "for (int c = 0; c < now.kids.size(); c++) now.kids.get(c).";
        String eachPlace = "for (int h = 0; h < now.places.size(); h++) now.places.get(h).";
        undone("BORN", x -> x.bear(1, 0),
            "if (was.kids.size() > now.kids.size()) now.kids.add(was.kids.get(now.kids.size()));");
        undone("DIES", x -> x.die(2), eachKid + "lives = was.lives(c);");
        undone("MOVED", x -> x.move(3, 0), eachKid + "house = was.kids.get(c).house;");
        undone("ROLLED", x -> x.roll(0), eachPlace + "side = was.places.get(h).side;");
        undone("INHERITED", x -> x.inherit(0), eachPlace + "inherited = was.places.get(h).inherited;");
        undone("INHERITED, and what each HEIR HAS", x -> x.inherit(0), eachKid + "has = was.kids.get(c).has;");
        undone("A YEAR", YoungestHouse::year, "now.year = was.year;");
        undone("A YEAR, and the AGES", YoungestHouse::year, eachKid + "age = was.kids.get(c).age;");
    }
}
