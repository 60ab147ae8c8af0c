/** Promises 16 to 21: GETS, WAY, ROLL, MEND, JUDGED, SHARE. */
final class EdgesOfGetting extends Edges {
    @Override
    void ofPromise(int promise) {
        switch (promise) {
            case 16:
                promise16();
                break;
            case 17:
                promise17();
                promise17Way();
                break;
            case 18:
                promise18();
                promise18Houses();
                break;
            case 19:
                promise19();
                break;
            case 20:
                promise20();
                promise20Things();
                promise20Ahead();
                break;
            case 21:
                promise21();
                break;
            default:
                break;
        }
    }

    private void promise16() {
        String gets = "int gets(int child)";
        String known = "return now.isKid(child) ?";
        refusal("16 UNKNOWN: a CHILD below 0", SETTLED, UNKNOWN, YoungestHouse::gets, -1, LOW)
            .breaks(gets, known, "return child == -1 || now.isKid(child) ?")
            .breaks(gets, known, "return child == Integer.MIN_VALUE || now.isKid(child) ?")
            .breaks(gets, known, "now.year++; return now.isKid(child) ?");
        refusal("16 UNKNOWN: a CHILD above the last", SETTLED, UNKNOWN, YoungestHouse::gets, 6, 7, HIGH)
            .breaks(gets, known, "return child == 6 || now.isKid(child) ?")
            .breaks(gets, known, "return child == Integer.MAX_VALUE || now.isKid(child) ?")
            .breaks(gets, known, "now.year++; return now.isKid(child) ?");
        refusal("16 UNKNOWN: nobody there yet", NEW, UNKNOWN, YoungestHouse::gets, 0)
            .breaks(gets, known, "return child == 0 || now.isKid(child) ?");
        idleEdge("16 nothing is changed", SETTLED, YoungestHouse::gets, 1, 4).breaks(gets, known, "now.year++; " + known)
            .breaks("int gets(int c)", "State s = copy();", "State s = this;");
        edge("16 a HOUSE that is INHERITED gives no more", due -> {
            YoungestHouse x = townOf("YH09C500C300");
            x.inherit(0);
            due.is("of its HEIR", x.gets(0), 9);
            x.die(0);
            due.is("of who would be its HEIR now", x.gets(1), 0);
        }).breaks("boolean inherit(", "places.get(h).inherited || ", "");
        edge("16 of one that is dead: what it HAS", due -> {
            YoungestHouse x = townOf("YH09H05C500");
            x.inherit(0);
            x.move(0, 1);
            due.is("alive", x.gets(0), 14);
            x.die(0);
            due.is("dead", x.gets(0), 9);
        }).breaks("int gets(int c)", "return s.kids.get(c).has;", "return kids.get(c).lives ? s.kids.get(c).has : 0;")
            .breaks("int gets(int c)", "State s = copy();", "State s = copy(); s.kids.get(c).lives = true;");
        edge("16 0: what it HAS and what it would have are nothing", due -> due.is("gets(1)",
            townOf("YH09C500C300").gets(1), 0))
            .breaks(gets, "now.gets(child)", "Math.max(1, now.gets(child))");
        edge("16 what it would have is cut, too", due -> {
            YoungestHouse x = townOf("YH05H01C502C402C512C412");
            for (int c = 0; c < 4; c++) due.is("gets(" + c + ")", x.gets(c), c < 2 ? 2 : 0);
        }).breaks("boolean inherit(", "places.get(h).worth / Integer.bitCount(heirs)",
            "(places.get(h).worth + 1) / Integer.bitCount(heirs)");
    }

    private void promise17() {
        String way = "int way(";
        String unknown = "if (!now.isKid(child) || !now.isPlace(house)) return UNKNOWN;";
        noSuchChild(17, way, (x, v) -> x.way(v, 0));
        noSuch("17 UNKNOWN: a HOUSE", way, "!now.isPlace(house)", "house", 2, (x, v) -> x.way(1, v));
        refusal("17 UNKNOWN: nothing there yet", NEW, UNKNOWN, (x, v) -> x.way(v, v), 0)
            .breaks(way, "!now.isKid(child) || !now.isPlace(house)", "child != 0")
            .slips(way, "!now.isKid(child) || !now.isPlace(house)");
        refusal("17 LATE: the CHILD does not live", SETTLED, LATE, (x, v) -> x.way(v, x.child(v, 1)), 0, 3)
            .lets(way, "!now.lives(child)", "child");
        refusal("17 UNKNOWN (the HOUSE) is told ahead of LATE", SETTLED, UNKNOWN, (x, v) -> x.way(0, v), 2, -1)
            .swaps(way, unknown, "if (!now.lives(child)) return LATE;");
        refusal("17 LATE is told ahead of NONE: dead, and of another HOUSE", SETTLED, LATE, (x, v) -> x.way(v, 1), 0)
            .breaks(way, "if (!now.lives(child)) return LATE;",
                "if (now.kids.get(child).house != house) return NONE; if (!now.lives(child)) return LATE;");
        idleEdge("17 nothing is changed", SETTLED, (x, v) -> x.way(1, v), 0, 1)
            .breaks(way, "return best;", "now.year++; return best;")
            .breaks(way, "return best;", "act(); return best;");
    }

    private void promise17Way() {
        String way = "int way(";
        edge("17 NONE: a CHILD of another HOUSE", due -> {
            YoungestHouse x = townOf("YH01H19C500C310");
            due.is("way(0, 1)", x.way(0, 1), NONE);
            due.is("way(1, 0)", x.way(1, 0), NONE);
            x.die(1);
            due.is("way(0, 1) with nobody in it", x.way(0, 1), NONE);
        }).breaks(way, "return best;", "return best == NONE ? 0 : best;")
            .breaks(way, "return best;", "return best == NONE ? LATE : best;");
        edge("17 none must die: 0", due -> {
            due.is("alone", townOf("YH01C503").way(0, 0), 0);
            due.is("the oldest", townOf("YH01C500C300").way(0, 0), 0);
            due.is("the only DAUGHTER", townOf("YH01C503C302").way(1, 0), 0);
        }).breaks(way, "int size = 0", "int size = 1").breaks(way, "return best;", "return best == 0 ? NONE : best;");
        edge("17 all six others must die", due -> {
            YoungestHouse x = townOf("YH01C900C801C702C602C903C503");
            x.bear(0, 3);
            due.is("way(6, 0)", x.way(6, 0), 63);
            due.is("way(5, 0)", x.way(5, 0), 31);
            YoungestHouse y = townOf("YH01C003C901C800C702C602C903");
            y.bear(0, 1);
            due.is("way(0, 0)", y.way(0, 0), 126);
        }).breaks(way, "size < 7", "size < 6").breaks(way, "set < 128", "set < 126");
        edge("17 an HEIR of it, and the only one", due -> {
            YoungestHouse x = townOf("YH01C502C302C102");
            due.is("way(0, 0)", x.way(0, 0), 6);
            due.is("way(2, 0)", x.way(2, 0), 3);
        }).breaks(way, "heirs == 1 << child", "(heirs >> child & 1) == 1");
        edge("17 CHILDREN that live: who is dead is not among them", due -> {
            YoungestHouse x = townOf("YH01C900C800C500");
            x.die(0);
            due.is("way(2, 0)", x.way(2, 0), 2);
            x.die(1);
            due.is("way(2, 0)", x.way(2, 0), 0);
        }).breaks(way, "now.lives(c) && ", "");
        edge("17 the fewest: none that is in nobody's way", due -> {
            YoungestHouse x = townOf("YH01H01C900C803C702C510C300");
            due.is("way(4, 0)", x.way(4, 0), 1);
            due.is("way(2, 0)", x.way(2, 0), 17);
            x.roll(0);
            due.is("way(0, 0)", x.way(0, 0), 16);
        }).breaks(way, "for (int size = 0; size < 7 && best == NONE; size++)",
            "for (int size = 6; size >= 0 && best == NONE; size--)");
    }

    private void promise18() {
        String roll = "int rollFor(";
        String bad = "if (what != 0 && what != 1) return BAD;";
        noSuchChild(18, roll, (x, v) -> x.rollFor(v, 0));
        refusal("18 BAD: what is below 0", SETTLED, BAD, (x, v) -> x.rollFor(1, v), -1, LOW)
            .lets(roll, "what != 0 && what != 1", "what");
        refusal("18 BAD: what is above 1", SETTLED, BAD, (x, v) -> x.rollFor(0, v), 2, HIGH)
            .lets(roll, "what != 0 && what != 1", "what");
        refusal("18 UNKNOWN is told ahead of BAD", SETTLED, UNKNOWN, (x, v) -> x.rollFor(6, v), 2, -1)
            .swaps(roll, "if (!now.isKid(child)) return UNKNOWN;", bad);
        idleEdge("18 nothing is changed", SETTLED, (x, v) -> x.rollFor(4, v), 0, 1)
            .breaks(roll, "State s = now.copy();", "State s = now; s.year++;")
            .breaks(roll, "return what == 0", "act(); return what == 0");
        edge("18 fewest: none, where ROLLED it GETS no more", due -> {
            YoungestHouse x = townOf("YH09H05H07C500C300C200C512");
            due.is("the HEIR", x.rollFor(0, 1), 0);
            due.is("never an HEIR", x.rollFor(1, 1), 0);
            due.is("never an HEIR, how much", x.rollFor(1, 0), 0);
            due.is("a DAUGHTER", x.rollFor(3, 1), 0);
            due.is("a DAUGHTER, how much", x.rollFor(3, 0), 5);
        }).breaks(roll, "s.gets(child) > most", "s.gets(child) >= most").breaks(roll, "int most = -1;", "int most = 0;");
        edge("18 fewest: its own HOUSE alone, the first and the last", due -> {
            YoungestHouse x = townOf("YH09H15H04C500C300C520C320");
            due.is("rollFor(1, 1)", x.rollFor(1, 1), 1);
            due.is("rollFor(3, 1)", x.rollFor(3, 1), 4);
            due.is("rollFor(3, 0)", x.rollFor(3, 0), 4);
        }).breaks(roll, "s.gets(child) > most", "s.gets(child) >= most").breaks(roll, "size <= 3", "size <= 0")
            .breaks(roll, "set < 8", "set < 4");
    }

    private void promise18Houses() {
        String roll = "int rollFor(";
        edge("18 ROLLED from SIDE 1 to 0, too", due -> {
            YoungestHouse x = townOf("YH19C500C300");
            due.is("how much", x.rollFor(0, 0), 9);
            due.is("the set", x.rollFor(0, 1), 1);
            due.is("the set of the youngest", x.rollFor(1, 1), 0);
        }).breaks(roll, "side ^= 1", "side = 1");
        edge("18 as all is now: who was born, is dead, has moved, HAS", due -> {
            int[] much = {0, 0, 2, 2, 9, 0};
            YoungestHouse x = Look.made(SETTLED);
            for (int c = 0; c < 6; c++) {
                due.is("how much of " + c, x.rollFor(c, 0), much[c]);
                due.is("the set of " + c, x.rollFor(c, 1), 0);
            }
            x.bear(0, 0);
            x.bear(1, 0);
            due.is("the set of one born behind", x.rollFor(6, 1), 1);
            due.is("how much of it", x.rollFor(6, 0), 9);
        }).breaks(roll, "State s = now.copy();", "State s = ahead.getFirst().copy();");
        edge("18 a HOUSE that is INHERITED is not ROLLED", due -> {
            YoungestHouse x = townOf("YH09C500C300");
            x.inherit(0);
            due.is("how much", x.rollFor(1, 0), 0);
            due.is("the set", x.rollFor(1, 1), 0);
            due.is("what it HAS", x.rollFor(0, 0), 9);
        }).breaks("boolean inherit(", "places.get(h).inherited || ", "");
        edge("18 beside a HOUSE that is INHERITED another one is ROLLED", due -> {
            YoungestHouse x = townOf("YH09H15H04C500C300C510C310C520C320");
            x.inherit(1);
            due.is("a lesser one", x.rollFor(1, 1), 1);
            due.is("a lesser one, how much", x.rollFor(1, 0), 9);
            due.is("a greater one", x.rollFor(5, 1), 4);
            due.is("a greater one, how much", x.rollFor(5, 0), 4);
            x.inherit(0);
            due.is("the only one left", x.rollFor(5, 1), 4);
        }).breaks(roll, "if (can && ", "if (!can) return what == 0 ? most : best; if (")
            .breaks(roll, "boolean can = true;", "boolean can = set == 0 || about(4) == 0;");
        edge("18 of one that is dead: what it HAS, and none", due -> {
            YoungestHouse x = townOf("YH09H05C500C300");
            x.inherit(0);
            x.move(0, 1);
            x.die(0);
            due.is("how much", x.rollFor(0, 0), 9);
            due.is("the set", x.rollFor(0, 1), 0);
        }).breaks(roll, "State s = now.copy();", "State s = now.copy(); s.kids.get(child).lives = true;")
            .breaks(roll, "s.gets(child) > most", "s.gets(child) >= most");
    }

    private void promise19() {
        String mend = "int mend(";
        noSuchChild(19, mend, YoungestHouse::mend);
        idleEdge("19 nothing is changed", SETTLED, YoungestHouse::mend, 1, 4)
            .breaks(mend, "State s = now.copy();", "State s = now;")
            .breaks(mend, "return best;", "act(); return best;");
        edge("19 or that it is of: it is best there, or there is no other", due -> {
            due.is("best at home", townOf("YH01H09C510C300").mend(0), 1);
            due.is("one HOUSE", townOf("YH01C500C300").mend(1), 0);
        }).breaks(mend, "State s = now.copy();", "if (h == now.kids.get(child).house) continue; State s = now.copy();");
        edge("19 of like ones the least", due -> {
            YoungestHouse x = townOf("YH07H17H07C520");
            due.is("three like ones, of the last", x.mend(0), 0);
            due.is("two like ones behind", townOf("YH03H17H07C520").mend(0), 1);
            due.is("nothing anywhere", townOf("YH07H17C500C300C910C010C800").mend(1), 0);
        }).breaks(mend, "s.gets(child) > most", "s.gets(child) >= most")
            .breaks(mend, "int best = -1;", "int best = now.kids.get(child).house;", "int most = -1;",
                "int most = now.gets(child);");
        edge("19 the last HOUSE", due -> due.is("mend(0)", townOf("YH01H02H03C500").mend(0), 2))
            .breaks(mend, "h < now.places.size()", "h < now.places.size() - 1");
        edge("19 no HOUSE that just a TOWN told before had", due -> {
            YoungestHouse x = townOf("YH01H09H08C500");
            due.is("mend(0)", x.mend(0), 1);
            Look.tell(x, "YH01C500");
            x.town();
            due.is("mend(0) of one HOUSE", x.mend(0), 0);
            Look.tell(x, "YH01H02C500");
            x.town();
            due.is("mend(0) of two", x.mend(0), 1);
            due.is("gets(0)", x.gets(0), 1);
        }).breaks("int town(", "now = new State();", "List<Place> were = now.places; now = new State();",
            "return 10 * ", "while (now.places.size() < were.size()) now.places.add(were.get(now.places.size())); return 10 * ");
        edge("19 of one that is dead: it GETS the same in each, the least", due -> {
            YoungestHouse x = townOf("YH01H09C510");
            x.die(0);
            due.is("mend(0)", x.mend(0), 0);
        }).breaks(mend, "State s = now.copy();", "State s = now.copy(); s.kids.get(child).lives = true;")
            .breaks(mend, "s.gets(child) > most", "s.gets(child) >= most");
        edge("19 a HOUSE that is INHERITED gives no more", due -> {
            YoungestHouse x = townOf("YH01H09C500C310");
            x.inherit(1);
            due.is("mend(0)", x.mend(0), 0);
        }).breaks("boolean inherit(", "places.get(h).inherited || ", "");
    }

    private void promise20() {
        String judge = "int judge(";
        String bad = "n < 1 || n > 4 || row < 0";
        String figures = "figures.length() > 2 * n";
        refusal("20 BAD: n below 1", SETTLED, BAD, (x, v) -> x.judge(v, 0), 0, -1, LOW)
            .breaks(judge, "n < 1", "n < 1 && n != 0", figures, "n > 0 && " + figures)
            .breaks(judge, "n < 1", "n < 1 && n != -1", figures, "n > 0 && " + figures)
            .breaks(judge, "n < 1", "n < 1 && n != Integer.MIN_VALUE", figures, "n > 0 && " + figures).slips(judge, bad);
        refusal("20 BAD: n above 4", SETTLED, BAD, (x, v) -> x.judge(v, 0), 5, HIGH)
            .breaks(judge, "n > 4", "n > 5")
            .breaks(judge, "n > 4", "n > 4 && n != Integer.MAX_VALUE", figures, "n < 5 && " + figures)
            .slips(judge, bad);
        refusal("20 BAD: row below 0", SETTLED, BAD, (x, v) -> x.judge(4, v), -1, LOW)
            .breaks(judge, "row < 0", "row < -1")
            .breaks(judge, "row < 0", "row < 0 && row != Integer.MIN_VALUE", figures, "row > 0 && " + figures)
            .slips(judge, bad);
        int[] tooMany = {100, 10000, 1000000, 100000000};
        for (int things = 1; things <= 4; things++) {
            int n = things;
            refusal("20 BAD: more than 2 n figures of " + n, SETTLED, BAD, (x, v) -> x.judge(n, v), tooMany[n - 1], HIGH)
            .lets(judge, figures, "row");
            edge("20 2 n figures of " + n + " are not too many", due -> {
                int most = tooMany[n - 1] - 1;
                due.is("judge(" + n + ", " + most + ")", townOf(TWO).judge(n, most), 0);
            }).breaks(judge, figures, "figures.length() > 2 * n - 1");
        }
        idleEdge("20 nothing is changed", SETTLED, (x, v) -> x.judge(4, v), 0, 11203000, 12001430, 21002199)
            .breaks(judge, "State s = now.copy();", "State s = now;")
            .breaks(judge, "String figures", "act(); String figures");
        edge("20 NONE: all can be", due -> {
            due.is("one", townOf(TWO).judge(1, 10), NONE);
            due.is("four", townOf(TWO).judge(4, 213100), NONE);
        }).breaks(judge, "return NONE;", "return n;");
        edge("20 figures that are not told are 0: A YEAR", due -> {
            for (int n = 1; n <= 4; n++) due.is("judge(" + n + ", 0)", new YoungestHouse().judge(n, 0), NONE);
            due.is("judge(2, 3)", townOf(TWO).judge(2, 3), 1);
        }).breaks(judge, "figures = \"0\" + figures", "figures = figures + \"0\"")
            .breaks(judge, "figures = \"0\" + figures", "figures = \"4\" + figures");
    }

    private void judged(Due due, Look.Setup setup, int n, int row, int want) {
        due.is("judge(" + n + ", " + row + ")", Look.made(setup).judge(n, row), want);
    }

    private void promise20Things() {
        String judge = "int judge(";
        Look.Setup two = Look.town(TWO);
        edge("20 the place (from 0) of the first that can not be: 0 .. 3", due -> {
            judged(due, two, 4, 99999999, 0);
            judged(due, two, 4, 999999, 1);
            judged(due, two, 4, 9999, 2);
            judged(due, two, 4, 99, 3);
            judged(due, two, 1, 99, 0);
        }).breaks(judge, "return i;", "return i + 1;").breaks(judge, "i < n", "i < n - 1")
            .breaks(judge, "return i;", "return n - 1;");
        edge("20 0 and 0: A YEAR; 0 and another figure can not be", due -> {
            judged(due, two, 1, 0, NONE);
            for (int row = 1; row < 10; row++) judged(due, two, 1, row, 0);
        }).breaks(judge, "can = which == 0;", "can = true;").breaks(judge, "can = which == 0;", "can = which < 9;");
        edge("20 4 .. 9 and any figure can not be", due -> {
            for (int row = 40; row < 100; row++) judged(due, two, 1, row, 0);
        }).breaks(judge, "case '3':", "case '3': case '4':")
            .breaks(judge, "default:", "case '9': can = s.lives(which); break; default:");
        edge("20 1 and a CHILD: one that there is not can not be", due -> {
            for (int c = 0; c < 10; c++) judged(due, two, 1, 10 + c, c < 4 ? NONE : 0);
            judged(due, SEVEN, 1, 16, NONE);
            judged(due, SEVEN, 1, 17, 0);
        }).breaks(judge, "can = s.lives(which);", "can = !s.isKid(which) || s.lives(which); which = 0;")
            .breaks("boolean isKid(", "c < kids.size()", "c < Math.min(6, kids.size())");
        edge("20 1 and a CHILD: one that is dead can not be", due -> {
            judged(due, SETTLED, 1, 10, 0);
            judged(due, SETTLED, 2, 1413, 1);
        }).breaks(judge, "can = s.lives(which);", "can = s.isKid(which);");
        edge("20 2 and a HOUSE: one that there is not can not be", due -> {
            for (int h = 0; h < 10; h++) judged(due, two, 1, 20 + h, h < 2 ? NONE : 0);
            judged(due, SETTLED, 1, 21, NONE);
        }).breaks(judge, "can = s.isPlace(which);", "can = which < 3; which = 0;")
            .breaks(judge, "can = s.isPlace(which);", "can = s.isPlace(which) && !s.places.get(which).inherited;");
        edge("20 3 and a HOUSE: one that there is not can not be", due -> {
            for (int h = 0; h < 10; h++) judged(due, two, 1, 30 + h, h < 2 ? NONE : 0);
        }).breaks(judge, "can = s.inherit(which);", "can = which > 1 || s.inherit(which);");
        edge("20 3 and a HOUSE: one that is so, or has no HEIR, can not be", due -> {
            judged(due, SETTLED, 1, 31, 0);
            judged(due, Look.town("YH01"), 1, 30, 0);
            judged(due, Look.town("YH01C500").then(x -> x.die(0)), 1, 30, 0);
        }).breaks("boolean inherit(", "places.get(h).inherited || ", "")
            .breaks(judge, "can = s.inherit(which);", "can = s.inherit(which) || s.isPlace(which) && s.heirs(which) == 0;");
        edge("20 with nothing there yet only A YEAR can be", due -> {
            for (int row = 0; row < 100; row++) judged(due, NEW, 1, row, row == 0 ? NONE : 0);
        }).breaks(judge, "can = which == 0;", "can = which == 0 && !s.places.isEmpty();")
            .breaks(judge, "can = s.inherit(which);", "can = s.places.isEmpty();");
    }

    private void promise20Ahead() {
        String judge = "int judge(";
        Look.Setup two = Look.town(TWO);
        edge("20 what is ahead of it being done: who died does not live", due -> judged(due, two, 3, 120012, 2))
            .breaks(judge, "s.kids.get(which).lives = false;", ";");
        edge("20 what is ahead of it being done: what is INHERITED is so", due -> judged(due, two, 3, 310031, 2))
            .breaks(judge, "can = s.inherit(which);", "can = s.copy().inherit(which);");
        edge("20 what is ahead of it being done: the last HEIR died", due -> {
            judged(due, Look.town("YH09C500C302"), 3, 101130, 2);
            judged(due, Look.town("YH09C500C302"), 2, 1030, NONE);
        }).breaks(judge, "s.kids.get(which).lives = false;", ";")
            .breaks(judge, "s.kids.get(which).lives = false;", "for (Kid k : s.kids) k.lives = false;");
        edge("20 ROLLED as often as one likes", due -> judged(due, two, 4, 20202020, NONE))
            .breaks(judge, "can = s.isPlace(which);",
                "can = s.isPlace(which) && s.places.get(which).side == now.places.get(which).side;");
    }

    private void share(Due due, YoungestHouse x, int child, int upper, int lower) {
        fraction(due, "share(" + child + ")", x.share(child, true), x.share(child, false), upper, lower);
    }

    private void promise21() {
        String share = "int share(int child";
        String all = "int housesWithHeir(";
        noSuchChild(21, share, (x, v) -> x.share(v, true));
        idleEdge("21 nothing is changed", SETTLED, (x, v) -> x.share(v, true), 1, 4)
            .breaks(share, "long[] sums", "now.year++; long[] sums")
            .breaks(share, "long[] sums", "act(); long[] sums");
        edge("21 0, if it does not live: 0 by 1", due -> {
            share(due, Look.made(SETTLED), 0, 0, 1);
            share(due, Look.made(SETTLED), 3, 0, 1);
        }).breaks(share, "return upper ? 0 : 1;", "return 0;").breaks(share, "return upper ? 0 : 1;", "return LATE;")
            .breaks(share, "return upper ? 0 : 1;", "return 1;");
        edge("21 alone in a HOUSE: 1 by 1, of each KIND", due -> {
            YoungestHouse x = townOf("YH01H19H05C500C412C323");
            for (int c = 0; c < 3; c++) share(due, x, c, 1, 1);
        }).breaks(share, "sums[0]", "sums[0] - 1").breaks("int heirs(int h, int side", "adopted.isEmpty() ? 0", "true ? 0");
        edge("21 the most in a HOUSE: 1 by 7", due -> {
            YoungestHouse x = townOf("YH01C900C801C702C602C503C403");
            x.bear(0, 0);
            share(due, x, 0, 1, 7);
            share(due, x, 6, 1, 7);
        }).breaks(share, "if (now.lives(c)) alive", "if (now.lives(c) && c != 5) alive");
        edge("21 in least terms", due -> {
            YoungestHouse x = townOf("YH01H01C500C300C110");
            share(due, x, 0, 1, 2);
            share(due, x, 2, 1, 1);
        }).breaks("int part(", "above.gcd(below)", "BigInteger.ONE");
        edge("21 HOUSES, INHERITED or not", due -> {
            YoungestHouse x = townOf("YH01H01C500C300C110");
            x.inherit(0);
            x.inherit(1);
            share(due, x, 1, 1, 2);
            share(due, x, 2, 1, 1);
        }).breaks(all, "!= 0) count++", "!= 0 && !places.get(h).inherited) count++");
        edge("21 CHILDREN that live: one that is dead does not come", due -> {
            YoungestHouse x = townOf("YH01C500C300C100");
            x.die(0);
            share(due, x, 1, 1, 2);
            x.die(2);
            share(due, x, 1, 1, 1);
        }).breaks(share, "if (now.lives(c)) alive", "alive");
        edge("21 others are as dead: who lives and has not come is no HEIR", due -> share(due, townOf("YH01C900C302"),
            1, 1, 2))
            .breaks(all, "alive::contains", "this::lives");
    }
}
