/** Promises 22 to 24: what is SEEN, SIDES, LEAST WRONG. */
final class EdgesOfSeen extends Edges {
    private static final Look.Setup SIX = SETTLED.then(x -> {
        for (int i = x.about(7); i < 6; i++) x.see(0, 0, 1);
    });

    @Override
    void ofPromise(int promise) {
        switch (promise) {
            case 22:
                promise22();
                promise22Full();
                break;
            case 23:
                promise23();
                break;
            case 24:
                promise24();
                promise24NotLookedAt();
                promise24LeastWrong();
                break;
            default:
                break;
        }
    }

    private void promise22() {
        String see = "int see(";
        String bits = "lived < 0 || lived >= 1 << now.kids.size() || (lived >> child & 1) == 0";
        noSuch("22 UNKNOWN: a HOUSE", see, "!now.isPlace(house)", "house", 2, (x, v) -> x.see(v, 0, 1));
        refusal("22 UNKNOWN: a CHILD below 0", SETTLED, UNKNOWN, (x, v) -> x.see(0, v, 1), -1, LOW)
            .breaks(see, "!now.isKid(child)", "child >= now.kids.size()").slips(see, "!now.isKid(child)");
        refusal("22 UNKNOWN: a CHILD above the last", SETTLED, UNKNOWN, (x, v) -> x.see(0, v, 1 << v), 6, 7, HIGH)
            .breaks(see, "!now.isKid(child)", "child < 0").slips(see, "!now.isKid(child)");
        refusal("22 UNKNOWN: nothing there yet", NEW, UNKNOWN, (x, v) -> x.see(v, v, 0), 0)
            .breaks(see, "!now.isPlace(house) || !now.isKid(child)", "child != 0")
            .slips(see, "!now.isPlace(house) || !now.isKid(child)");
        refusal("22 UNKNOWN: nobody there yet", Look.town("YH01"), UNKNOWN, (x, v) -> x.see(0, v, 1), 0)
            .breaks(see, "!now.isKid(child)", "child != 0").slips(see, "!now.isKid(child)");
        refusal("22 BAD: lived below 0", SETTLED, BAD, (x, v) -> x.see(0, 0, v), -1, LOW + 1)
            .breaks(see, "lived < 0", "lived < -1").breaks(see, "lived < 0", "lived == -1").slips(see, bits);
        refusal("22 BAD: lived is the least int", SETTLED, BAD, (x, v) -> x.see(0, 0, v), LOW)
            .breaks(see, bits, "lived != Integer.MIN_VALUE && (" + bits + ")").slips(see, bits);
        refusal("22 BAD: bits of a CHILD that there is not", SETTLED, BAD, (x, v) -> x.see(0, 0, v), 64, 65, 128 + 1, HIGH)
            .breaks(see, "lived >= 1 << now.kids.size()", "lived >= 128")
            .breaks(see, "lived >= 1 << now.kids.size()", "lived > 1 << now.kids.size() + 1")
            .breaks(see, "lived >= 1 << now.kids.size()", "lived >= 1 << now.kids.size() && lived != Integer.MAX_VALUE")
            .slips(see, bits);
        refusal("22 BAD: the CHILD is not among them", SETTLED, BAD, (x, v) -> x.see(0, 1, v), 0, 1, 61)
            .breaks(see, "(lived >> child & 1) == 0", "lived == 0")
            .breaks(see, "(lived >> child & 1) == 0", "lived != 0 && (lived >> child & 1) == 0").slips(see, bits);
    }

    private void promise22Full() {
        String see = "int see(";
        String unknown = "if (!now.isPlace(house) || !now.isKid(child)) return UNKNOWN;";
        String bad = "if (lived < 0 || lived >= 1 << now.kids.size() || (lived >> child & 1) == 0) return BAD;";
        String full = "if (seen.size() == 6) return FULL;";
        refusal("22 FULL: 6", SIX, FULL, (x, v) -> x.see(0, 0, v), 1, 63).lets(see, "seen.size() == 6", "lived")
            .breaks(see, "return FULL;", "{ seen.remove(0); seen.add(new int[] {1, 5, 32}); return FULL; }");
        refusal("22 UNKNOWN is told ahead of BAD", SETTLED, UNKNOWN, (x, v) -> x.see(v, 0, 0), 2, -1)
            .breaks(see, unknown, "if (lived == 0) return BAD; " + unknown);
        refusal("22 UNKNOWN is told ahead of FULL", SIX, UNKNOWN, (x, v) -> x.see(v, 0, 1), 2, -1).swaps(see, unknown, full);
        refusal("22 BAD is told ahead of FULL", SIX, BAD, (x, v) -> x.see(0, 0, v), 0, 64).swaps(see, bad, full);
        edge("22 how many there are: 1 .. 6", due -> {
            YoungestHouse x = townOf(TWO);
            for (int i = 1; i <= 6; i++) due.is("see", x.see(0, 0, 1), i);
            due.is("SEEN", x.about(7), 6);
        }).breaks(see, "seen.size() == 6", "seen.size() == 5").breaks(see, "return seen.size();", "return seen.size() - 1;");
        edge("22 just itself lived, or all of 7", due -> {
            YoungestHouse x = Look.made(SEVEN);
            due.is("see(0, 6, 64)", x.see(0, 6, 64), 3);
            due.is("see(0, 6, 127)", x.see(0, 6, 127), 4);
        }).breaks(see, "lived >= 1 << now.kids.size()", "lived >= 64")
            .breaks(see, "lived >= 1 << now.kids.size()", "lived >= 127");
        edge("22 of one that is dead, and of another HOUSE", due -> {
            YoungestHouse x = Look.made(SETTLED);
            due.is("see(0, 0, 9), dead", x.see(0, 0, 9), 3);
            due.is("see(1, 0, 1), of the other", x.see(1, 0, 1), 4);
        }).breaks(see, "!now.isKid(child)", "!now.lives(child)")
            .breaks(see, "!now.isKid(child)", "!now.isKid(child) || now.kids.get(child).house != house");
        edge("22 the same is SEEN as often as it is told", due -> {
            YoungestHouse x = townOf("YH01C500C300");
            x.see(0, 1, 3);
            x.see(0, 1, 3);
            x.see(0, 0, 3);
            due.is("SEEN", x.about(7), 3);
            due.is("how many are not so", x.sides(4), 1);
            due.is("by which", x.sides(3), 1);
        }).breaks(see, "seen.add(", "if (seen.stream().noneMatch(s -> s[1] == child)) seen.add(");
        edge("22 it is no ACT", due -> {
            YoungestHouse x = townOf(TWO);
            x.see(0, 0, 1);
            due.is("undo", x.undo(), LATE);
        }).breaks(see, "seen.add(", "act(); seen.add(");
    }

    private void promise23() {
        String unsee = "int unsee(";
        edge("23 how much there was: 0, if nothing is SEEN", due -> {
            due.is("unsee of a new one", new YoungestHouse().unsee(), 0);
            YoungestHouse x = Look.made(SETTLED);
            x.unsee();
            due.is("unsee once more", x.unsee(), 0);
        }).breaks(unsee, "return n;", "return n == 0 ? LATE : n;").breaks(unsee, "seen.clear();", "");
        edge("23 how much there was: 6, and there is room for 6 again", due -> {
            YoungestHouse x = Look.made(SIX);
            due.is("unsee", x.unsee(), 6);
            due.is("SEEN", x.about(7), 0);
            for (int i = 1; i <= 6; i++) due.is("see", x.see(0, 0, 1), i);
            due.is("see", x.see(0, 0, 1), FULL);
        }).breaks(unsee, "seen.clear();", "seen.remove(0);").breaks(unsee, "return n;", "return seen.size();");
        edge("23 what was SEEN is looked at no more", due -> {
            YoungestHouse x = townOf(TWO);
            x.see(1, 0, 1);
            x.unsee();
            due.is("sides(0)", x.sides(0), 4);
            due.is("sides(4)", x.sides(4), 0);
        }).breaks(unsee, "seen.clear();", "");
        edge("23 all else is as it was", due -> {
            Look.Setup again = SETTLED.then(YoungestHouse::unsee).then(x -> {
                x.see(0, 0, 3);
                x.see(1, 2, 12);
            });
            due.holds("as it was", Look.deep(again).equals(Look.deep(SETTLED)));
        }).breaks(unsee, "seen.clear();", "seen.clear(); ahead.clear();")
            .breaks(unsee, "seen.clear();", "seen.clear(); act();")
            .breaks(unsee, "seen.clear();", "seen.clear(); text = \"\";");
    }

    private static void sidesAre(Due due, YoungestHouse x, int... want) {
        for (int what = 0; what < 5; what++) due.is("sides(" + what + ")", x.sides(what), want[what]);
    }

    private void promise24() {
        String sides = "int sides(";
        refusal("24 BAD: what is below 0", SETTLED, BAD, YoungestHouse::sides, -1, LOW)
            .lets(sides, "what < 0 || what > 4", "what");
        refusal("24 BAD: what is above 4", SETTLED, BAD, YoungestHouse::sides, 5, HIGH)
            .lets(sides, "what < 0 || what > 4", "what");
        idleEdge("24 nothing is changed", SETTLED, YoungestHouse::sides, 0, 1, 2, 3, 4)
            .breaks(sides, "int n = ", "now.year++; int n = ")
            .breaks(sides, "int n = ", "act(); int n = ");
        edge("24 with no TOWN: SIDES of no HOUSES are one", due -> {
            sidesAre(due, new YoungestHouse(), 1, 0, 0, 0, 0);
            sidesAre(due, townOf("Y"), 1, 0, 0, 0, 0);
        }).breaks(sides, "int n = now.places.size();", "int n = now.places.size(); if (n == 0) return 0;")
            .breaks(sides, "right.isEmpty()", "right.isEmpty() || n == 0");
        edge("24 nothing SEEN: all SIDES, 8 at most", due -> {
            sidesAre(due, townOf("YH01"), 2, 0, 0, 0, 0);
            sidesAre(due, townOf("YH01H11H01"), 8, 0, 0, 0, 0);
        }).breaks(sides, "return right.size();", "return Math.min(7, right.size());")
            .breaks(sides, "right.isEmpty()", "right.isEmpty() || seen.isEmpty()")
            .breaks(sides, "return right.size();", "return seen.isEmpty() ? 0 : right.size();");
        edge("24 one alone: each HOUSE is on one SIDE in all", due -> {
            YoungestHouse x = townOf("YH01H01H01C500C300C510C310C520C320");
            x.see(0, 1, 3);
            x.see(1, 2, 12);
            x.see(2, 5, 48);
            sidesAre(due, x, 1, 5, 2, 5, 0);
        }).breaks(sides, "what == 1 ? 1 : 0", "what == 1 ? 0 : 1").breaks(sides, "h < n", "h < n - 1");
        edge("24 NONE (of the latter two): there are none", due -> {
            YoungestHouse x = townOf("YH01H11C500C300");
            x.see(0, 0, 3);
            x.see(0, 1, 3);
            sidesAre(due, x, 0, NONE, NONE, 0, 1);
        }).breaks(sides, "if (right.isEmpty()) return NONE;", "")
            .breaks(sides, "if (right.isEmpty()) return NONE;", "if (right.isEmpty()) return 0;")
            .breaks(sides, "if (what == 0)", "if (right.isEmpty()) return NONE; if (what == 0)");
        edge("24 0 (of the latter two) is not NONE: what is SEEN is so by both SIDES", due -> {
            YoungestHouse x = townOf("YH01C502C302");
            x.see(0, 0, 3);
            sidesAre(due, x, 2, 0, 0, 0, 0);
        }).breaks(sides, "return bits;", "return bits == 0 ? NONE : bits;");
        edge("24 HOUSES, AGES of CHILDREN as they are now", due -> {
            YoungestHouse x = townOf("YH01H01C500C300C010");
            x.see(0, 1, 7);
            sidesAre(due, x, 2, 1, 0, 1, 0);
            x.move(2, 0);
            sidesAre(due, x, 0, NONE, NONE, 0, 1);
            x.move(0, 1);
            sidesAre(due, x, 2, 0, 1, 0, 0);
        }).breaks("int wrongBy(", "int heirs = now.", "int heirs = (ahead.isEmpty() ? now : ahead.getFirst()).")
            .breaks("int wrongBy(", "(s[2] >> c & 1) == 1);", "(s[2] >> c & 1) == 1 && now.kids.get(c).house == s[0]) | 2;");
    }

    private void promise24NotLookedAt() {
        String wrong = "int wrongBy(";
        edge("24 one that tells of a CHILD that there is not any more is not looked at", due -> {
            YoungestHouse x = townOf("YH01H01C500");
            x.bear(0, 0);
            x.see(1, 1, 2);
            sidesAre(due, x, 0, NONE, NONE, 0, 1);
            x.undo();
            sidesAre(due, x, 4, 0, 0, 0, 0);
            due.is("SEEN all the same", x.about(7), 1);
        }).breaks(wrong, "if (!there) continue;", "if (!there) { wrong++; continue; }")
            .breaks("int undo(", "return ahead", "seen.clear(); return ahead");
        edge("24 nor one that tells of it as one that lived", due -> {
            YoungestHouse x = townOf("YH01H01C500");
            x.bear(0, 0);
            x.see(1, 0, 3);
            due.is("is not so", x.sides(4), 1);
            x.undo();
            sidesAre(due, x, 4, 0, 0, 0, 0);
        }).breaks(wrong, "there = false;", ";");
        edge("24 nor one that tells of a HOUSE that there is not any more", due -> {
            YoungestHouse x = townOf("YH01H01H01C500");
            x.see(2, 0, 1);
            due.is("is not so", x.sides(4), 1);
            Look.tell(x, "YH01H01C500");
            x.town();
            sidesAre(due, x, 4, 0, 0, 0, 0);
            Look.tell(x, "Y");
            x.town();
            sidesAre(due, x, 1, 0, 0, 0, 0);
            due.is("SEEN all the same", x.about(7), 1);
        }).breaks(wrong, "now.isPlace(s[0]) && ", "")
            .breaks(wrong, "if (!there) continue;", "if (!there) { wrong++; continue; }");
        edge("24 the others are looked at, ahead of it and behind it", due -> {
            YoungestHouse x = townOf("YH01H01C500C300C510C310");
            x.bear(0, 0);
            x.see(0, 1, 3);
            x.see(0, 0, 19);
            x.see(1, 3, 12);
            sidesAre(due, x, 0, NONE, NONE, 2, 1);
            x.undo();
            sidesAre(due, x, 1, 3, 0, 3, 0);
        }).breaks(wrong, "if (!there) continue;", "if (!there) break;")
            .breaks(wrong, "if (!there) continue;", "if (!there) return 0;");
        edge("24 of one that is dead it is looked at: it is there", due -> {
            YoungestHouse x = townOf("YH01C500C300");
            x.see(0, 1, 3);
            x.die(1);
            x.die(0);
            sidesAre(due, x, 1, 1, 0, 1, 0);
        }).breaks(wrong, "now.isKid(s[1])", "now.lives(s[1])").breaks(wrong, "!now.isKid(c)", "!now.lives(c)");
    }

    private void promise24LeastWrong() {
        String sides = "int sides(";
        edge("24 LEAST WRONG: the least as a number, of like ones", due -> {
            YoungestHouse x = townOf("YH11H11C500C300C510C310");
            x.see(0, 0, 3);
            x.see(0, 1, 3);
            x.see(1, 3, 12);
            x.see(1, 2, 12);
            due.is("which", x.sides(3), 0);
            due.is("how many are not so", x.sides(4), 2);
        }).breaks(sides, "wrongBy(s) <= wrongBy(least)", "wrongBy(s) < wrongBy(least)", "int least = 0;",
            "int least = (1 << n) - 1;");
        edge("24 LEAST WRONG: none is not so", due -> {
            YoungestHouse x = townOf("YH01H01C500C300C510C310");
            x.see(0, 1, 3);
            due.is("which", x.sides(3), 1);
            due.is("how many are not so", x.sides(4), 0);
        }).breaks(sides, "return wrongBy(least);", "return Math.max(1, wrongBy(least));")
            .breaks(sides, "return least;", "return 0;");
        edge("24 LEAST WRONG: all 6 are not so, by all SIDES", due -> {
            YoungestHouse x = townOf("YH01H11H11C500C300");
            for (int i = 0; i < 6; i++) x.see(2, 0, 1);
            sidesAre(due, x, 0, NONE, NONE, 0, 6);
        }).breaks(sides, "return wrongBy(least);", "return Math.min(5, wrongBy(least));")
            .breaks(sides, "if (what == 3) return least;", "if (what == 3) return right.isEmpty() ? NONE : least;");
        edge("24 LEAST WRONG: all HOUSES on SIDE 1", due -> {
            YoungestHouse x = townOf("YH01H01H01C500C300C510C310C520C320");
            for (int h = 0; h < 3; h++) x.see(h, 2 * h + 1, 3 << 2 * h);
            sidesAre(due, x, 1, 7, 0, 7, 0);
        }).breaks(sides, "int s = (1 << n) - 1;", "int s = (1 << n) - 2;");
    }
}
