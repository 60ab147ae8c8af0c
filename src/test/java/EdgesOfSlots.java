/** Promises 29 and 30: what the SLOTS keep, and going on from there. */
final class EdgesOfSlots extends Edges {
    @Override
    void ofPromise(int promise) {
        switch (promise) {
            case 29:
                promise29();
                break;
            case 30:
                promise30();
                promise30Whole();
                break;
            default:
                break;
        }
    }

    private void promise29() {
        String keep = "int keep(";
        String unknown = "slot != 0 && slot != 1";
        refusal("29 UNKNOWN: a SLOT below 0", SETTLED, UNKNOWN, YoungestHouse::keep, -1, LOW).lets(keep, unknown, "slot");
        refusal("29 UNKNOWN: a SLOT above 1", SETTLED, UNKNOWN, YoungestHouse::keep, 2, HIGH).lets(keep, unknown, "slot");
        edge("29 SLOTS 0 .. 1: each by itself", due -> {
            YoungestHouse x = townOf(TWO);
            due.is("keep(0)", x.keep(0), 0);
            due.is("again(1)", x.again(1), LATE);
            x.year();
            due.is("keep(1)", x.keep(1), 1);
            due.is("again(0)", x.again(0), 0);
            due.is("again(1)", x.again(1), 1);
        }).breaks(keep, unknown, "slot != 0").breaks(keep, unknown, "slot != 1").breaks(keep, "kept[slot]", "kept[0]")
            .breaks(keep, "kept[slot]", "kept[1]");
        edge("29 with no TOWN: THE YEAR", due -> {
            YoungestHouse x = new YoungestHouse();
            due.is("keep(0)", x.keep(0), 0);
            x.year();
            due.is("keep(1)", x.keep(1), 1);
            due.is("again(0)", x.again(0), 0);
        }).breaks(keep, "kept[slot] =", "if (now.places.isEmpty()) return LATE; kept[slot] =");
        edge("29 kept once more: what was kept there is gone", due -> {
            YoungestHouse x = townOf(TWO);
            x.keep(0);
            x.year();
            due.is("keep(0)", x.keep(0), 1);
            x.year();
            due.is("again(0)", x.again(0), 1);
        }).breaks(keep, "kept[slot] =", "if (kept[slot] != null) return now.year; kept[slot] =")
            .breaks(keep, "kept[slot] =", "if (kept[slot] != null) return FULL; kept[slot] =");
        edge("29 they are kept, and nothing else changes", due -> {
            YoungestHouse x = townOf(TWO);
            x.die(0);
            x.year();
            x.see(0, 0, 1);
            String before = Look.all(x);
            x.keep(1);
            due.holds("as it was", Look.all(x).equals(before));
            due.is("undo", x.undo(), 1);
        }).breaks(keep, "return now.year;", "ahead.clear(); return now.year;")
            .breaks(keep, "return now.year;", "act(); return now.year;")
            .breaks(keep, "return now.year;", "return now.year++;")
            .breaks(keep, "return now.year;", "seen.clear(); return now.year;");
        edge("29 what is done later is not kept", due -> {
            YoungestHouse x = townOf(TWO);
            x.keep(1);
            x.die(0);
            x.again(1);
            due.is("who lives", x.about(2), 15);
        }).breaks(keep, "now.copy()", "now");
    }

    private void promise30() {
        String again = "int again(";
        String unknown = "slot != 0 && slot != 1";
        refusal("30 UNKNOWN: a SLOT below 0", SETTLED, UNKNOWN, YoungestHouse::again, -1, LOW).lets(again, unknown, "slot");
        refusal("30 UNKNOWN: a SLOT above 1", SETTLED, UNKNOWN, YoungestHouse::again, 2, HIGH).lets(again, unknown, "slot");
        refusal("30 LATE: none were kept, in a new object", NEW, LATE, YoungestHouse::again, 0, 1)
            .lets(again, "kept[slot] == null", "slot");
        refusal("30 LATE: none were kept in that SLOT", SETTLED, LATE, YoungestHouse::again, 1)
            .lets(again, "kept[slot] == null", "slot")
            .breaks(again, "kept[slot] == null", "kept[0] == null && kept[1] == null");
        refusal("30 LATE: none were kept in THE TOWN made anew", Look.town(TWO).then(x -> {
            x.keep(0);
            x.keep(1);
            x.town();
            x.die(1);
        }), LATE, YoungestHouse::again, 0, 1).lets(again, "kept[slot] == null", "slot")
            .breaks("int town(", "kept[0] = null;", "").breaks("int town(", "kept[1] = null;", "");
        refusal("30 UNKNOWN is told ahead of LATE", NEW, UNKNOWN, YoungestHouse::again, 2, -1)
            .breaks(again, "if (slot", "if (kept[0] == null && kept[1] == null) return LATE; if (slot");
        edge("30 no ACTS when one goes on", due -> {
            YoungestHouse x = Look.made(SETTLED);
            due.is("again(0)", x.again(0), 1);
            due.is("ACTS", x.about(6), 0);
            due.is("undo", x.undo(), LATE);
        }).breaks(again, "ahead.clear();", "").breaks(again, "ahead.clear();", "act();");
        edge("30 as often as one likes, whatever is done between", due -> {
            YoungestHouse x = townOf(TWO);
            x.keep(0);
            String kept = Look.state(x);
            for (int i = 0; i < 3; i++) {
                x.die(0);
                x.move(1, 1);
                x.inherit(1);
                x.roll(0);
                x.year();
                x.bear(0, 0);
                due.is("again(0)", x.again(0), 0);
            }
            due.holds("as kept", Look.state(x).equals(kept));
        }).breaks(again, "kept[slot].copy()", "kept[slot]")
            .breaks(again, "return now.year;", "kept[slot] = null; return now.year;");
        edge("30 THE TEXT, SEEN and THE SEED are as before", due -> {
            YoungestHouse x = Look.made(SETTLED);
            x.see(0, 0, 1);
            x.write('y');
            x.seed(3);
            x.again(0);
            due.is("SEEN", x.about(7), 3);
            due.is("bytes", x.about(8), TWO.length() + 2);
            due.is("seed", x.seed(0), 3);
        }).breaks(again, "ahead.clear();", "ahead.clear(); seen.clear();")
            .breaks(again, "ahead.clear();", "ahead.clear(); text = \"\";")
            .breaks(again, "ahead.clear();", "ahead.clear(); seed = BigInteger.ZERO;");
    }

    /** One thing is done behind what was kept, and is not so any more when one goes on. */
    private Edge kept(String name, Look.Setup done, String left) {
        return edge("30 as it was kept: " + name, due -> {
            Look.Setup before = SETTLED.then(x -> x.keep(1));
            Look.Setup again = before.then(done).then(x -> x.again(1));
            due.holds("as it was", Look.state(Look.made(again)).equals(Look.state(Look.made(before))));
        }).breaks("int again(", "now = kept[slot].copy();", "State was = now; now = kept[slot].copy(); " + left);
    }

    private void promise30Whole() {
        String eachKid = "for (int c = 0; c < Math.min(was.kids.size(), now.kids.size()); c++) now.kids.get(c).";
        String eachPlace = "for (int h = 0; h < now.places.size(); h++) now.places.get(h).";
        kept("SIDES", x -> x.roll(0), eachPlace + "side = was.places.get(h).side;");
        kept("what is INHERITED", x -> x.inherit(0), eachPlace + "inherited = was.places.get(h).inherited;");
        kept("CHILDREN, one more born", x -> x.bear(0, 0),
            "if (was.kids.size() > now.kids.size()) now.kids.add(was.kids.get(now.kids.size()));");
        kept("CHILDREN, one not born any more", x -> {
            for (int i = 0; i < 14; i++) x.undo();
        }, "while (now.kids.size() > was.kids.size()) now.kids.remove(was.kids.size());");
        kept("CHILDREN, their HOUSES", x -> x.move(4, 1), eachKid + "house = was.kids.get(c).house;");
        kept("CHILDREN, their AGES", YoungestHouse::year, eachKid + "age = was.kids.get(c).age;");
        kept("who lives", x -> x.die(4), eachKid + "lives = was.lives(c);");
        kept("what they HAVE", x -> x.inherit(0), eachKid + "has = was.kids.get(c).has;");
        kept("THE YEAR", YoungestHouse::year, "now.year = was.year;");
        edge("30 as it was kept: the KIND of one born in the place of another", due -> {
            YoungestHouse x = townOf(TWO);
            x.bear(0, 1);
            x.keep(0);
            x.undo();
            x.bear(1, 3);
            x.again(0);
            due.is("KIND", x.child(4, 2), 1);
            due.is("HOUSE", x.child(4, 1), 0);
        }).breaks("int again(", "now = kept[slot].copy();",
            "State was = now; now = kept[slot].copy(); now.kids.get(4).kind = was.kids.get(4).kind;");
    }
}
