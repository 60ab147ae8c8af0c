/** Each promise of the document by hand: ordinary inputs, edges, wrong inputs. */
public final class PromiseTest {
    private static final int UNKNOWN = -1, BAD = -2, LATE = -3, FULL = -4, NONE = -9;
    private static final int LOW = Integer.MIN_VALUE, HIGH = Integer.MAX_VALUE;
    private static final Due due = new Due("PromiseTest");

    /** Two houses; four sons of the first (one a twin), two daughters of the second. */
    private static final String TWO = "YH09H15C500C300C301C700C912C812";
    /** One house of side 0, worth 7: a son of 9, a twin of 4, a daughter of 6, an adopted one of 8. */
    private static final String MIXED = "YH07C900C401C602C803";

    public static void main(String[] args) {
        theTown();
        theActs();
        whatOneGets();
        theSeen();
        restsAndOdds();
        theSlots();
        due.end();
    }

    private static void theTown() {
        promise1();
        promise2();
        promise3();
        promise4();
        promise4Marks();
        promise5();
        promise5AfterTrials();
        promise6();
        promise7();
        promise8();
        promise8Order();
    }

    private static void theActs() {
        promise9();
        promise10();
        promise11();
        promise12();
        promise13();
        promise14();
        promise15();
        promise15Each();
    }

    private static void whatOneGets() {
        promise16();
        promise17();
        promise18();
        promise19();
        promise20();
        promise20Inherits();
        promise21();
    }

    private static void theSeen() {
        promise22();
        promise23();
        promise24();
        promise24LeastWrong();
        promise24NotLookedAt();
    }

    private static void restsAndOdds() {
        promise25();
        promise25Payoffs();
        promise26();
        promise27();
        promise28();
        promise28NothingChanges();
    }

    private static void theSlots() {
        promise29();
        promise30();
        promise30Whole();
    }

    // ---- helpers

    private static YoungestHouse townOf(String text) {
        YoungestHouse x = new YoungestHouse();
        Look.tell(x, text);
        due.holds("town " + text, x.town() >= 0);
        return x;
    }

    private static void faultIs(String text, int want) {
        YoungestHouse x = new YoungestHouse();
        Look.tell(x, text);
        due.is("fault of " + text, x.fault(), want);
        due.is("town of " + text, x.town() == LATE ? LATE : 0, want == NONE ? 0 : LATE);
    }

    private static void same(String what, YoungestHouse x, String before) {
        due.holds(what + " changes nothing", Look.all(x).equals(before));
    }

    private static void fraction(String what, int upper, int lower, int wantUpper, int wantLower) {
        due.is(what + " above", upper, wantUpper);
        due.is(what + " below", lower, wantLower);
    }

    private static void share(YoungestHouse x, int child, int upper, int lower) {
        fraction("share(" + child + ")", x.share(child, true), x.share(child, false), upper, lower);
    }

    private static void odds(YoungestHouse x, int child, int tenths, int upper, int lower) {
        fraction("odds(" + child + ", " + tenths + ")",
            x.odds(child, tenths, true), x.odds(child, tenths, false), upper, lower);
    }

    // ---- the town

    private static void promise1() {
        YoungestHouse x = new YoungestHouse();
        for (int what = 0; what < 9; what++) due.is("new about(" + what + ")", x.about(what), 0);
        due.is("new child", x.child(0, 0), UNKNOWN);
        due.is("new heirs", x.heirs(0, 0), UNKNOWN);
        due.is("new undo", x.undo(), LATE);
        due.is("new seed", x.seed(1), 0);
        due.is("new again(0)", x.again(0), LATE);
        due.is("new again(1)", x.again(1), LATE);
        due.is("UNKNOWN", YoungestHouse.UNKNOWN, UNKNOWN);
        due.is("BAD", YoungestHouse.BAD, BAD);
        due.is("LATE", YoungestHouse.LATE, LATE);
        due.is("FULL", YoungestHouse.FULL, FULL);
        due.is("NONE", YoungestHouse.NONE, NONE);
    }

    private static void promise2() {
        YoungestHouse x = new YoungestHouse();
        due.is("write(-1)", x.write(-1), BAD);
        due.is("write(256)", x.write(256), BAD);
        due.is("write(LOW)", x.write(LOW), BAD);
        due.is("write(HIGH)", x.write(HIGH), BAD);
        due.is("write(0)", x.write(0), 1);
        due.is("write(255)", x.write(255), 2);
        for (int i = 3; i <= 48; i++) due.is("write " + i, x.write('Y'), i);
        due.is("write 49", x.write('Y'), FULL);
        due.is("write 49 that is bad", x.write(256), BAD);
        due.is("bytes", x.about(8), 48);
    }

    private static void promise3() {
        YoungestHouse x = townOf(TWO);
        due.is("wipe", x.wipe(), TWO.length());
        due.is("wipe again", x.wipe(), 0);
        due.is("bytes", x.about(8), 0);
        due.is("fault of nothing", x.fault(), 0);
        due.is("houses stay", x.about(0), 2);
        due.is("write behind it", x.write('Y'), 1);
        due.is("fault", x.fault(), NONE);
    }

    private static void promise4() {
        faultIs("", 0);
        faultIs("y", 0);
        faultIs("HY", 0);
        faultIs("Y", NONE);
        faultIs("YY", 1);
        faultIs("YH", 2);
        faultIs("YH0", 3);
        faultIs("YH09", NONE);
        faultIs("YH01H12H09", NONE);
        faultIs("YH01H12H09H", 10);
        faultIs("YC", 1);
        faultIs("YC000H09", 1);
        faultIs("YH09C", 5);
        faultIs("YH09C9", 6);
        faultIs("YH09C90", 7);
        faultIs("YH09C903", NONE);
        faultIs("YH09C010H11", 6);
        faultIs("YH09H11C010", NONE);
        faultIs("YH09C000H11C010H12C020", NONE);
        faultIs("YH01H12H09C000C000C000C000C000C000", NONE);
        faultIs("YH09C000C000C000C000C000C000C", 28);
        faultIs("YH09C000C000C000C000C000C000H01C", 31);
        faultIs("YH09C000 ", 8);
        faultIs(TWO, NONE);
    }

    private static void promise4Marks() {
        faultIs("YH29", 2);
        faultIs("YH/9", 2);
        faultIs("YH00", 3);
        faultIs("YH0:", 3);
        faultIs("YH01C:00", 5);
        faultIs("YH01C/00", 5);
        faultIs("YH01C0/0", 6);
        faultIs("YH01C010", 6);
        faultIs("YH01C00/", 7);
        faultIs("YH01C004", 7);
        faultIs("YH19C003", NONE);
        faultIs("YX", 1);
        faultIs("YH01\0", 4);
        faultIs("YH01\u00ff", 4);
        StringBuilder full = new StringBuilder("YH09");
        while (full.length() < 48) full.append('C');
        faultIs(full.toString(), 5);
    }

    private static void promise5() {
        YoungestHouse x = new YoungestHouse();
        due.is("town of nothing", x.town(), LATE);
        Look.tell(x, "Y");
        due.is("town of Y", x.town(), 0);
        for (int what = 0; what < 8; what++) due.is("of Y about(" + what + ")", x.about(what), 0);
        Look.tell(x, TWO);
        due.is("town", x.town(), 26);
        due.is("text stays", x.about(8), TWO.length());
        x.die(1);
        x.roll(0);
        x.inherit(1);
        x.year();
        x.see(0, 0, 1);
        x.keep(0);
        x.keep(1);
        x.seed(77);
        String before = Look.all(x);
        x.write('x');
        due.is("town with a fault", x.town(), LATE);
        x.wipe();
        Look.tell(x, TWO);
        same("a town with a fault", x, before);
        due.is("town anew", x.town(), 26);
        int[] due5 = {2, 6, 63, 2, 0, 0, 0, 1, TWO.length()};
        for (int what = 0; what < 9; what++) due.is("anew about(" + what + ")", x.about(what), due5[what]);
        due.is("nobody has anything", x.child(4, 3), 0);
        due.is("age anew", x.child(4, 0), 9);
        due.is("no acts", x.undo(), LATE);
        due.is("kept 0 is gone", x.again(0), LATE);
        due.is("kept 1 is gone", x.again(1), LATE);
        due.is("seed stays", x.seed(0), 77);
    }

    /** What was tried out in a town is nothing in the next one. */
    private static void promise5AfterTrials() {
        YoungestHouse x = townOf("YH19H15C500C300C712C812");
        x.inherit(0);
        x.inherit(1);
        x.year();
        x.mend(0);
        x.towns(1);
        due.is("a fault", x.fault(), NONE);
        x.mend(0);
        Look.tell(x, "YH09C500C400");
        due.is("a lesser town", x.town(), 12);
        int[] want = {1, 2, 3, 0, 0, 0, 0, 0, 12};
        for (int what = 0; what < 9; what++) due.is("lesser about(" + what + ")", x.about(what), want[what]);
        due.is("it has nothing", x.child(0, 3), 0);
        due.is("nor has the other", x.child(1, 3), 0);
        due.is("its age", x.child(0, 0), 5);
    }

    private static void promise6() {
        YoungestHouse x = townOf("YH09H15H11C500C301C702C913");
        x.die(2);
        x.roll(0);
        x.inherit(0);
        x.year();
        x.year();
        x.see(0, 0, 1);
        int[] want = {3, 4, 11, 7, 1, 2, 5, 1, 26};
        for (int what = 0; what < 9; what++) due.is("about(" + what + ")", x.about(what), want[what]);
        due.is("about(-1)", x.about(-1), BAD);
        due.is("about(9)", x.about(9), BAD);
        due.is("about(LOW)", x.about(LOW), BAD);
        due.is("about(HIGH)", x.about(HIGH), BAD);
    }

    private static void promise7() {
        YoungestHouse x = townOf("YH09H15C500C301C712C913");
        x.inherit(1);
        x.die(2);
        x.year();
        int[][] want = {{6, 0, 0, 0, 1}, {4, 0, 1, 0, 1}, {8, 1, 2, 5, 0}, {10, 1, 3, 0, 1}};
        for (int c = 0; c < 4; c++) {
            for (int what = 0; what < 5; what++) {
                due.is("child(" + c + ", " + what + ")", x.child(c, what), want[c][what]);
            }
        }
        due.is("child(4, 0)", x.child(4, 0), UNKNOWN);
        due.is("child(-1, 0)", x.child(-1, 0), UNKNOWN);
        due.is("child(HIGH, 9)", x.child(HIGH, 9), UNKNOWN);
        due.is("child(0, -1)", x.child(0, -1), BAD);
        due.is("child(0, 5)", x.child(0, 5), BAD);
        due.is("child(0, LOW)", x.child(0, LOW), BAD);
    }

    private static void promise8() {
        YoungestHouse x = townOf(MIXED);
        due.is("eldest son", x.heirs(0, 0), 1);
        due.is("youngest son", x.heirs(0, 1), 2);
        due.is("own side 0", x.heirs(0, 2), 1);
        x.roll(0);
        due.is("own side 1", x.heirs(0, 2), 2);
        x.die(0);
        due.is("a twin is a son", x.heirs(0, 0), 2);
        x.die(1);
        due.is("daughter", x.heirs(0, 0), 4);
        x.bear(0, 2);
        due.is("all daughters", x.heirs(0, 0), 20);
        due.is("all daughters, side 1", x.heirs(0, 1), 20);
        x.die(2);
        x.die(4);
        x.bear(0, 3);
        due.is("oldest adopted", x.heirs(0, 0), 8);
        due.is("oldest adopted, side 1", x.heirs(0, 1), 8);
        x.die(3);
        due.is("the other adopted", x.heirs(0, 1), 32);
        x.die(5);
        due.is("nobody", x.heirs(0, 2), 0);
        due.is("heirs(-1, 0)", x.heirs(-1, 0), UNKNOWN);
        due.is("heirs(1, 9)", x.heirs(1, 9), UNKNOWN);
        due.is("heirs(HIGH, 0)", x.heirs(HIGH, 0), UNKNOWN);
        due.is("heirs(0, -1)", x.heirs(0, -1), BAD);
        due.is("heirs(0, 3)", x.heirs(0, 3), BAD);
        due.is("heirs(0, LOW)", x.heirs(0, LOW), BAD);
    }

    private static void promise8Order() {
        YoungestHouse x = townOf("YH01C400C401C401C400");
        due.is("of one age the first twin is the oldest", x.heirs(0, 0), 2);
        due.is("of one age the last that is no twin is the youngest", x.heirs(0, 1), 8);
        x.die(3);
        due.is("the youngest without it", x.heirs(0, 1), 1);
        x.die(0);
        due.is("of twins the greater number is the youngest", x.heirs(0, 1), 4);
        YoungestHouse y = townOf("YH01C500C401C600C203C203");
        due.is("age goes ahead of being a twin", y.heirs(0, 0), 4);
        due.is("a twin that is younger", y.heirs(0, 1), 2);
        y.die(0);
        y.die(1);
        y.die(2);
        due.is("of adopted ones of one age the lesser number", y.heirs(0, 1), 8);
    }

    // ---- acts

    private static void promise9() {
        YoungestHouse x = townOf("YH09H15C500");
        x.year();
        due.is("bear", x.bear(1, 2), 1);
        due.is("its age", x.child(1, 0), 0);
        due.is("its house", x.child(1, 1), 1);
        due.is("its kind", x.child(1, 2), 2);
        due.is("it has", x.child(1, 3), 0);
        due.is("it lives", x.child(1, 4), 1);
        x.year();
        due.is("its age then", x.child(1, 0), 1);
        for (int i = 2; i < 7; i++) due.is("bear " + i, x.bear(0, 3), i);
        due.is("children", x.about(1), 7);
        due.is("all live", x.about(2), 127);
        String before = Look.all(x);
        due.is("bear an eighth", x.bear(0, 0), FULL);
        due.is("bear, house 2", x.bear(2, 9), UNKNOWN);
        due.is("bear, house -1", x.bear(-1, 0), UNKNOWN);
        due.is("bear, kind -1", x.bear(0, -1), BAD);
        due.is("bear, kind 4", x.bear(0, 4), BAD);
        due.is("bear, kind HIGH", x.bear(1, HIGH), BAD);
        same("a refused bear", x, before);
        x.undo();
        due.is("bear a seventh again", x.bear(1, 0), 6);
    }

    private static void promise10() {
        YoungestHouse x = townOf(TWO);
        due.is("die(3)", x.die(3), 5);
        due.is("die(0)", x.die(0), 4);
        due.is("who lives", x.about(2), 54);
        due.is("the heir then", x.heirs(0, 2), 4);
        String before = Look.all(x);
        due.is("die(3) again", x.die(3), LATE);
        due.is("die(6)", x.die(6), UNKNOWN);
        due.is("die(-1)", x.die(-1), UNKNOWN);
        due.is("die(LOW)", x.die(LOW), UNKNOWN);
        same("a refused die", x, before);
        x.year();
        due.is("a dead one's age", x.child(3, 0), 8);
    }

    private static void promise11() {
        YoungestHouse x = townOf(TWO);
        due.is("move(4, 0)", x.move(4, 0), 1);
        due.is("its house", x.child(4, 1), 0);
        due.is("heirs of the other", x.heirs(1, 2), 32);
        due.is("move(3, 1)", x.move(3, 1), 0);
        due.is("a son goes ahead of a daughter", x.heirs(1, 2), 8);
        x.die(3);
        due.is("a dead one, too", x.move(3, 0), 1);
        String before = Look.all(x);
        due.is("of that one", x.move(3, 0), LATE);
        due.is("move(6, 0)", x.move(6, 0), UNKNOWN);
        due.is("move(-1, 9)", x.move(-1, 9), UNKNOWN);
        due.is("move(0, 2)", x.move(0, 2), UNKNOWN);
        due.is("move(0, -1)", x.move(0, -1), UNKNOWN);
        due.is("move(HIGH, LOW)", x.move(HIGH, LOW), UNKNOWN);
        same("a refused move", x, before);
    }

    private static void promise12() {
        YoungestHouse x = townOf(TWO);
        due.is("roll(0)", x.roll(0), 1);
        due.is("roll(1)", x.roll(1), 0);
        due.is("sides", x.about(3), 1);
        due.is("the youngest has it", x.heirs(0, 2), 2);
        due.is("roll(0) back", x.roll(0), 0);
        x.inherit(0);
        due.is("an inherited one, too", x.roll(0), 1);
        String before = Look.all(x);
        due.is("roll(2)", x.roll(2), UNKNOWN);
        due.is("roll(-1)", x.roll(-1), UNKNOWN);
        due.is("roll(HIGH)", x.roll(HIGH), UNKNOWN);
        same("a refused roll", x, before);
    }

    private static void promise13() {
        YoungestHouse x = townOf(TWO);
        due.is("inherit(1)", x.inherit(1), 48);
        due.is("cut", x.child(4, 3), 2);
        due.is("cut, the other", x.child(5, 3), 2);
        due.is("inherit(0)", x.inherit(0), 8);
        due.is("alone", x.child(3, 3), 9);
        due.is("both", x.about(4), 3);
        String before = Look.all(x);
        due.is("once", x.inherit(1), LATE);
        due.is("inherit(2)", x.inherit(2), UNKNOWN);
        due.is("inherit(-1)", x.inherit(-1), UNKNOWN);
        due.is("inherit(LOW)", x.inherit(LOW), UNKNOWN);
        same("a refused inherit", x, before);
        YoungestHouse y = townOf("YH09H15C500C712");
        y.inherit(0);
        y.move(0, 1);
        due.is("a second house", y.inherit(1), 1);
        due.is("more", y.child(0, 3), 14);
        due.is("the daughter has nothing", y.child(1, 3), 0);
        YoungestHouse z = townOf("YH12H15C510");
        String empty = Look.all(z);
        due.is("no heir", z.inherit(0), LATE);
        same("no heir", z, empty);
        z.die(0);
        due.is("no heir that lives", z.inherit(1), LATE);
        YoungestHouse w = townOf("YH02C502C502C502");
        due.is("three of two", w.inherit(0), 7);
        due.is("nothing each", w.child(0, 3), 0);
        due.is("inherited all the same", w.about(4), 1);
    }

    private static void promise14() {
        YoungestHouse x = new YoungestHouse();
        due.is("year without a town", x.year(), 1);
        Look.tell(x, TWO);
        x.town();
        due.is("year", x.year(), 1);
        due.is("year", x.year(), 2);
        due.is("the year", x.about(5), 2);
        due.is("age", x.child(0, 0), 7);
        due.is("an act", x.about(6), 2);
    }

    private static void promise15() {
        YoungestHouse x = townOf(TWO);
        due.is("undo of nothing", x.undo(), LATE);
        for (int i = 1; i <= 20; i++) x.year();
        due.is("acts", x.about(6), 14);
        x.roll(0);
        due.is("acts are 14 still", x.about(6), 14);
        due.is("the last first", x.undo(), 13);
        due.is("rolled back", x.about(3), 2);
        for (int i = 12; i >= 0; i--) due.is("undo", x.undo(), i);
        due.is("the first ones are forgotten", x.about(5), 7);
        due.is("undo of nothing more", x.undo(), LATE);
        due.is("refused acts are none", x.roll(2), UNKNOWN);
        due.is("so none to undo", x.undo(), LATE);
    }

    /** A town with so many of nine ACTS of all kinds. */
    private static YoungestHouse acted(int acts) {
        Look.Setup[] all = {x -> x.bear(0, 1), x -> x.die(4), x -> x.inherit(1), x -> x.die(2), x -> x.move(3, 0),
            x -> x.roll(1), YoungestHouse::year, x -> x.inherit(0), x -> x.move(1, 1)};
        YoungestHouse x = townOf("YH09H15C500C300C712C812");
        for (int i = 0; i < acts; i++) all[i].on(x);
        return x;
    }

    private static void promise15Each() {
        for (int left = 0; left < 9; left++) {
            YoungestHouse x = acted(9);
            for (int i = 8; i >= left; i--) due.is("undo " + i, x.undo(), i);
            same("undone to " + left, x, Look.all(acted(left)));
        }
        YoungestHouse x = acted(1);
        x.undo();
        x.bear(1, 3);
        due.is("born in its place", x.child(4, 2), 3);
        due.is("has nothing", x.child(4, 3), 0);
    }

    // ---- what one gets

    private static void promise16() {
        YoungestHouse x = townOf(TWO);
        due.is("heir", x.gets(3), 9);
        due.is("not heir", x.gets(0), 0);
        due.is("one of two", x.gets(5), 2);
        x.inherit(0);
        due.is("has it", x.gets(3), 9);
        x.die(3);
        due.is("dead, has it", x.gets(3), 9);
        due.is("inherited already", x.gets(0), 0);
        due.is("dead one's sister", x.gets(4), 2);
        x.move(0, 1);
        due.is("moved", x.gets(0), 5);
        x.inherit(1);
        x.die(4);
        due.is("of an inherited house", x.gets(4), 0);
        due.is("gets(6)", x.gets(6), UNKNOWN);
        due.is("gets(-1)", x.gets(-1), UNKNOWN);
        due.is("gets(HIGH)", x.gets(HIGH), UNKNOWN);
        YoungestHouse y = townOf("YH09H15C500");
        y.inherit(0);
        y.move(0, 1);
        due.is("what it has and would have", y.gets(0), 14);
        y.die(0);
        due.is("dead it would have no more", y.gets(0), 9);
    }

    private static void promise17() {
        YoungestHouse x = townOf(MIXED + "C400");
        due.is("heir", x.way(0, 0), 0);
        due.is("the older must die", x.way(1, 0), 1);
        due.is("all sons", x.way(2, 0), 19);
        due.is("all", x.way(3, 0), 23);
        due.is("the older one of that age", x.way(4, 0), 3);
        x.roll(0);
        due.is("by the other side", x.way(0, 0), 18);
        due.is("the youngest", x.way(4, 0), 0);
        x.die(4);
        due.is("who is dead is not in its way", x.way(0, 0), 2);
        String before = Look.all(x);
        due.is("dead", x.way(4, 0), LATE);
        due.is("way(5, 0)", x.way(5, 0), UNKNOWN);
        due.is("way(-1, 0)", x.way(-1, 0), UNKNOWN);
        due.is("way(4, 1)", x.way(4, 1), UNKNOWN);
        due.is("way(0, -1)", x.way(0, -1), UNKNOWN);
        due.is("way(HIGH, LOW)", x.way(HIGH, LOW), UNKNOWN);
        same("way", x, before);
        YoungestHouse y = townOf("YH04H15C302C302C110C210C100");
        due.is("another house", y.way(2, 0), NONE);
        due.is("not the only one", y.way(0, 0), 18);
        y.inherit(1);
        due.is("inherited or not", y.way(3, 1), 4);
    }

    private static void promise18() {
        YoungestHouse x = townOf(TWO);
        due.is("how much, rolled", x.rollFor(1, 0), 9);
        due.is("the set", x.rollFor(1, 1), 1);
        due.is("how much, as it is", x.rollFor(3, 0), 9);
        due.is("no set", x.rollFor(3, 1), 0);
        due.is("never", x.rollFor(0, 0), 0);
        due.is("never, no set", x.rollFor(0, 1), 0);
        due.is("daughters", x.rollFor(4, 0), 2);
        due.is("daughters, no set", x.rollFor(4, 1), 0);
        String before = Look.all(x);
        due.is("what 2", x.rollFor(0, 2), BAD);
        due.is("what -1", x.rollFor(0, -1), BAD);
        due.is("child 6", x.rollFor(6, 2), UNKNOWN);
        due.is("child -1", x.rollFor(-1, 0), UNKNOWN);
        same("rollFor", x, before);
        x.inherit(0);
        due.is("an inherited one is not rolled", x.rollFor(1, 0), 0);
        due.is("an inherited one is not in the set", x.rollFor(1, 1), 0);
        due.is("what it has counts", x.rollFor(3, 0), 9);
        YoungestHouse y = townOf("YH09H15H17C520C420C320");
        due.is("the third house", y.rollFor(0, 1), 4);
        due.is("how much of the third", y.rollFor(0, 0), 7);
        due.is("the one between", y.rollFor(1, 0), 0);
        y.die(0);
        due.is("a dead one", y.rollFor(0, 1), 0);
    }

    private static void promise19() {
        YoungestHouse x = townOf(TWO);
        due.is("better elsewhere", x.mend(0), 1);
        due.is("best at home", x.mend(3), 0);
        due.is("a daughter stays where she has some", x.mend(4), 1);
        String before = Look.all(x);
        due.is("mend(6)", x.mend(6), UNKNOWN);
        due.is("mend(-1)", x.mend(-1), UNKNOWN);
        due.is("mend(HIGH)", x.mend(HIGH), UNKNOWN);
        same("mend", x, before);
        YoungestHouse y = townOf("YH03H18H18C500");
        due.is("of like ones the least", y.mend(0), 1);
        y.inherit(0);
        due.is("what it has is the same everywhere", y.mend(0), 1);
        y.move(0, 2);
        due.is("also when it is of another like one", y.mend(0), 1);
        y.die(0);
        due.is("a dead one gets the same everywhere", y.mend(0), 0);
        YoungestHouse z = townOf("YH01H19C210C510");
        due.is("not heir here, heir there", z.mend(1), 0);
        due.is("heir here", z.mend(0), 1);
        z.inherit(1);
        due.is("what is inherited gives no more", z.mend(0), 0);
    }

    private static void promise20() {
        YoungestHouse x = townOf(TWO);
        String before = Look.all(x);
        due.is("a year", x.judge(1, 0), NONE);
        due.is("four years", x.judge(4, 0), NONE);
        due.is("a year that is none", x.judge(1, 1), 0);
        due.is("last of four", x.judge(4, 9), 3);
        due.is("first of four", x.judge(4, 9000000), 0);
        due.is("second of four", x.judge(4, 90000), 1);
        due.is("dies", x.judge(1, 15), NONE);
        due.is("no such child", x.judge(1, 16), 0);
        due.is("dies twice", x.judge(2, 1010), 1);
        due.is("rolled", x.judge(1, 21), NONE);
        due.is("no such house to roll", x.judge(1, 22), 0);
        due.is("inherited", x.judge(1, 31), NONE);
        due.is("no such house to inherit", x.judge(1, 32), 0);
        due.is("inherited twice", x.judge(2, 3131), 1);
        due.is("rolled twice", x.judge(2, 2020), NONE);
        due.is("four", x.judge(1, 40), 0);
        due.is("greatest row of four", x.judge(4, 99999999), 0);
        due.is("too many figures for one", x.judge(1, 100), BAD);
        due.is("greatest row of one", x.judge(1, 99), 0);
        due.is("too many figures for two", x.judge(2, 10000), BAD);
        due.is("too many figures for three", x.judge(3, 1000000), BAD);
        due.is("too many figures for four", x.judge(4, 100000000), BAD);
        due.is("row HIGH", x.judge(4, HIGH), BAD);
        due.is("row -1", x.judge(1, -1), BAD);
        due.is("row LOW", x.judge(4, LOW), BAD);
        due.is("n 0", x.judge(0, 0), BAD);
        due.is("n 5", x.judge(5, 0), BAD);
        due.is("n LOW", x.judge(LOW, 0), BAD);
        due.is("n HIGH", x.judge(HIGH, 0), BAD);
        same("judge", x, before);
    }

    private static void promise20Inherits() {
        YoungestHouse x = townOf("YH09H15C500C610");
        due.is("who dies leaves no heir", x.judge(2, 1030), 1);
        due.is("the other house has one", x.judge(2, 1031), NONE);
        x.inherit(0);
        due.is("inherited before", x.judge(3, 2030), 2);
        x.die(1);
        due.is("died before", x.judge(4, 21001100), 2);
        due.is("no heir", x.judge(2, 2131), 1);
    }

    private static void promise21() {
        YoungestHouse x = townOf(TWO);
        share(x, 3, 1, 4);
        share(x, 4, 1, 2);
        x.die(0);
        share(x, 3, 1, 3);
        share(x, 0, 0, 1);
        x.move(3, 1);
        share(x, 3, 1, 3);
        share(x, 1, 1, 2);
        x.inherit(0);
        share(x, 2, 1, 2);
        x.die(1);
        share(x, 2, 1, 1);
        due.is("share(6)", x.share(6, true), UNKNOWN);
        due.is("share(-1)", x.share(-1, false), UNKNOWN);
        due.is("share(HIGH)", x.share(HIGH, true), UNKNOWN);
    }

    // ---- seen

    private static void promise22() {
        YoungestHouse x = townOf(TWO);
        due.is("house 2", x.see(2, 0, 1), UNKNOWN);
        due.is("house -1", x.see(-1, 0, 1), UNKNOWN);
        due.is("child 6", x.see(0, 6, 0), UNKNOWN);
        due.is("child -1", x.see(0, -1, 1), UNKNOWN);
        due.is("without it", x.see(0, 0, 62), BAD);
        due.is("nobody", x.see(0, 0, 0), BAD);
        due.is("one more than there are", x.see(0, 0, 65), BAD);
        due.is("below 0", x.see(0, 0, -1), BAD);
        due.is("lived LOW", x.see(0, 0, LOW), BAD);
        due.is("lived HIGH", x.see(0, 0, HIGH), BAD);
        due.is("none yet", x.about(7), 0);
        due.is("all lived", x.see(0, 0, 63), 1);
        due.is("of another house", x.see(1, 0, 1), 2);
        x.die(5);
        due.is("dead now", x.see(1, 5, 32), 3);
        for (int i = 4; i <= 6; i++) due.is("the same again", x.see(0, 0, 1), i);
        due.is("a seventh", x.see(0, 0, 1), FULL);
        due.is("a seventh that is bad", x.see(0, 0, 2), BAD);
        due.is("a seventh of nobody", x.see(0, 6, 2), UNKNOWN);
        due.is("seen", x.about(7), 6);
        due.is("it is no act", x.about(6), 1);
    }

    private static void promise23() {
        YoungestHouse x = townOf(TWO);
        due.is("unsee of nothing", x.unsee(), 0);
        x.see(1, 0, 1);
        x.see(1, 0, 1);
        due.is("nothing can be so", x.sides(0), 0);
        due.is("unsee", x.unsee(), 2);
        due.is("seen", x.about(7), 0);
        due.is("all sides can be", x.sides(0), 4);
        due.is("see again", x.see(0, 0, 1), 1);
    }

    private static void promise24() {
        YoungestHouse x = townOf(TWO);
        due.is("all sides", x.sides(0), 4);
        due.is("none on side 1 in all", x.sides(1), 0);
        due.is("none on side 0 in all", x.sides(2), 0);
        due.is("least", x.sides(3), 0);
        due.is("none wrong", x.sides(4), 0);
        x.see(0, 1, 3);
        due.is("the younger had it", x.sides(0), 2);
        due.is("so on side 1", x.sides(1), 1);
        due.is("none on side 0", x.sides(2), 0);
        due.is("least right", x.sides(3), 1);
        x.see(1, 4, 48);
        due.is("daughters tell nothing", x.sides(0), 2);
        x.move(3, 1);
        x.move(0, 1);
        due.is("houses are as now", x.sides(0), 4);
        x.see(1, 3, 9);
        due.is("the elder", x.sides(2), 2);
        due.is("two then", x.sides(0), 2);
        due.is("none on side 1", x.sides(1), 0);
        due.is("what -1", x.sides(-1), BAD);
        due.is("what 5", x.sides(5), BAD);
        due.is("what LOW", x.sides(LOW), BAD);
        due.is("what HIGH", x.sides(HIGH), BAD);
        YoungestHouse y = townOf("Y");
        int[] want = {1, 0, 0, 0, 0};
        for (int what = 0; what < 5; what++) due.is("no houses " + what, y.sides(what), want[what]);
    }

    private static void promise24LeastWrong() {
        YoungestHouse x = townOf("YH01H01H01C500C400C510C410C520C420");
        x.see(0, 0, 3);
        x.see(0, 1, 3);
        x.see(0, 1, 3);
        x.see(1, 2, 12);
        x.see(2, 5, 48);
        due.is("none right", x.sides(0), 0);
        due.is("none on side 1", x.sides(1), NONE);
        due.is("none on side 0", x.sides(2), NONE);
        due.is("least wrong", x.sides(3), 5);
        due.is("one is not so", x.sides(4), 1);
        x.see(0, 0, 3);
        due.is("of like ones the least", x.sides(3), 4);
        due.is("two are not so", x.sides(4), 2);
        x.unsee();
        x.see(2, 0, 1);
        due.is("never so", x.sides(4), 1);
        due.is("never so, least", x.sides(3), 0);
    }

    private static void promise24NotLookedAt() {
        YoungestHouse x = townOf("YH01H01C500C300");
        x.bear(0, 0);
        x.see(0, 0, 5);
        due.is("the elder of two", x.sides(2), 1);
        x.undo();
        due.is("one that lived is not there any more", x.sides(0), 4);
        x.bear(0, 0);
        x.unsee();
        x.see(1, 2, 4);
        due.is("not of that house", x.sides(0), 0);
        x.undo();
        due.is("it is not there any more", x.sides(0), 4);
        due.is("it is seen all the same", x.about(7), 1);
        x.unsee();
        x.see(1, 0, 1);
        due.is("not so", x.sides(4), 1);
        Look.tell(x, "YH01C500");
        x.town();
        due.is("the house is not there any more", x.sides(4), 0);
        due.is("so all sides", x.sides(0), 2);
        due.is("seen stays", x.about(7), 1);
    }

    // ---- rests, odds

    private static void promise25() {
        YoungestHouse x = townOf(TWO);
        due.is("not an heir, heir's brother", x.rests(0, 3, 0), 1);
        due.is("one leaves, the heir stays", x.rests(0, 3, 1), 1);
        due.is("the other way round", x.rests(3, 0, 1), 10);
        due.is("both leave", x.rests(0, 1, 1), 0);
        due.is("both are one", x.rests(0, 0, 0), BAD);
        due.is("what 2", x.rests(0, 3, 2), BAD);
        due.is("what -1", x.rests(0, 3, -1), BAD);
        due.is("what 2 of two houses", x.rests(0, 4, 2), BAD);
        due.is("child 6", x.rests(6, 0, 9), UNKNOWN);
        due.is("other 6", x.rests(0, 6, 9), UNKNOWN);
        due.is("child -1", x.rests(-1, -1, 0), UNKNOWN);
        due.is("two houses", x.rests(0, 4, 0), LATE);
        x.die(0);
        due.is("one does not live", x.rests(0, 3, 0), LATE);
        due.is("the other does not live", x.rests(3, 0, 1), LATE);
        x.die(3);
        due.is("neither lives", x.rests(3, 0, 1), LATE);
    }

    private static void promise25Payoffs() {
        YoungestHouse x = townOf("YH05C502C402");
        due.is("who stays alone has 5, both 2", x.rests(0, 1, 0), 2);
        due.is("the first one", x.rests(0, 1, 1), 1);
        YoungestHouse y = townOf("YH06C502C402");
        due.is("both 3: nobody has more by leaving", y.rests(0, 1, 0), 3);
        due.is("one stays, first", y.rests(0, 1, 1), 1);
        YoungestHouse z = townOf("YH03C502C402");
        due.is("alone 3: staying and leaving are like", z.rests(0, 1, 0), 3);
        due.is("both leave, first", z.rests(0, 1, 1), 0);
        YoungestHouse w = townOf("YH19C500C400");
        due.is("the youngest stays", w.rests(0, 1, 1), 1);
        w.inherit(0);
        due.is("inherited or not", w.rests(0, 1, 0), 1);
        YoungestHouse v = townOf("YH02C500C400");
        due.is("worth too little", v.rests(0, 1, 1), 0);
        YoungestHouse u = townOf("YH09C900C502C402");
        due.is("neither is an heir", u.rests(1, 2, 0), 1);
        u.die(0);
        due.is("half of 9 is more than 3", u.rests(1, 2, 1), 11);
        due.is("it is the only one", u.rests(1, 2, 0), 1);
    }

    private static void promise26() {
        YoungestHouse x = townOf(TWO);
        odds(x, 3, 3, 7, 10);
        odds(x, 0, 3, 21, 100);
        odds(x, 2, 3, 63, 1000);
        odds(x, 1, 3, 189, 10000);
        odds(x, 4, 3, 7, 10);
        odds(x, 3, 0, 1, 1);
        odds(x, 0, 0, 0, 1);
        odds(x, 3, 10, 0, 1);
        odds(x, 0, 5, 1, 4);
        due.is("x 11", x.odds(0, 11, true), BAD);
        due.is("x -1", x.odds(0, -1, true), BAD);
        due.is("x HIGH", x.odds(0, HIGH, true), BAD);
        due.is("child 6", x.odds(6, 11, true), UNKNOWN);
        due.is("child -1", x.odds(-1, 0, false), UNKNOWN);
        x.roll(0);
        odds(x, 1, 3, 7, 10);
        x.die(1);
        odds(x, 1, 3, 0, 1);
        due.is("dead, x 11", x.odds(1, 11, true), BAD);
        odds(x, 2, 3, 7, 10);
        YoungestHouse y = townOf("YH01C902C803C801C800C700C600");
        y.bear(0, 0);
        odds(y, 1, 9, 531441, 10000000);
        odds(y, 0, 1, 9, 1000000);
    }

    private static void promise27() {
        YoungestHouse x = new YoungestHouse();
        due.is("at first", x.seed(-5), 0);
        due.is("below 0", x.seed(Long.MIN_VALUE), -5);
        due.is("least", x.seed(Long.MAX_VALUE), Long.MIN_VALUE);
        due.is("greatest", x.seed(0), Long.MAX_VALUE);
        x.towns(1);
        due.is("gone on", x.seed(1), 1442695040888963407L);
        x.towns(2);
        long once = 6364136223846793005L + 1442695040888963407L;
        due.is("twice", x.seed(0), once * 6364136223846793005L + 1442695040888963407L);
    }

    private static void promise28() {
        YoungestHouse x = townOf("YH01C500C400C300C200C100C001");
        x.bear(0, 0);
        YoungestHouse sisters = townOf("YH01H11C502C402C312C212C112C002");
        sisters.bear(1, 2);
        // What each seed does first, by the document's own words; these seeds do all of it.
        for (long seed = 0; seed < 200; seed++) {
            int pick = (int) ((seedAfter(seed, 1) >>> 33) % 12);
            x.seed(seed);
            due.is("pick " + pick, x.towns(1), pick == 0 || pick == 7 ? 1 : 0);
            sisters.seed(seed);
            due.is("pick among sisters " + pick, sisters.towns(1), pick < 7 ? 1 : 0);
        }
        long before = x.seed(5);
        due.is("m 0", x.towns(0), BAD);
        due.is("m 31", x.towns(31), BAD);
        due.is("m -1", x.towns(-1), BAD);
        due.is("m LOW", x.towns(LOW), BAD);
        due.is("m HIGH", x.towns(HIGH), BAD);
        due.is("refused, the seed stays", x.seed(before), 5);
        due.is("m 30", x.towns(30) >= 0 ? 0 : 1, 0);
        YoungestHouse y = townOf(TWO);
        y.seed(5);
        // It picks 4 5 10 1 7 11 11 1 2: the fourth, fifth, first rolled and second child change heirs.
        due.is("towns(9) of seed 5", y.towns(9), 4);
        due.is("no town", new YoungestHouse().towns(30), 0);
        YoungestHouse z = townOf("YH01C500");
        z.seed(147);
        due.is("the only child dies", z.towns(1), 1);
    }

    private static void promise28NothingChanges() {
        YoungestHouse x = townOf(TWO);
        x.inherit(0);
        x.die(1);
        String before = Look.all(x);
        x.seed(9);
        x.towns(30);
        same("towns", x, before);
        due.is("but the seed", x.seed(0), seedAfter(9, 30));
        due.is("undo goes on as before", x.undo(), 1);
    }

    private static long seedAfter(long seed, int times) {
        for (int i = 0; i < times; i++) seed = seed * 6364136223846793005L + 1442695040888963407L;
        return seed;
    }

    // ---- slots

    private static void promise29() {
        YoungestHouse x = townOf(TWO);
        due.is("keep(0)", x.keep(0), 0);
        x.year();
        String before = Look.all(x);
        due.is("keep(1)", x.keep(1), 1);
        due.is("keep(2)", x.keep(2), UNKNOWN);
        due.is("keep(-1)", x.keep(-1), UNKNOWN);
        due.is("keep(LOW)", x.keep(LOW), UNKNOWN);
        due.is("keep(HIGH)", x.keep(HIGH), UNKNOWN);
        same("keep", x, before);
        due.is("acts stay", x.undo(), 0);
        x.year();
        x.year();
        due.is("keep over it", x.keep(0), 2);
        x.year();
        due.is("the later one", x.again(0), 2);
        due.is("the other one", x.again(1), 1);
        due.is("keep without a town", new YoungestHouse().keep(1), 0);
    }

    private static void promise30() {
        YoungestHouse x = townOf(TWO);
        due.is("none kept", x.again(0), LATE);
        due.is("none kept", x.again(1), LATE);
        due.is("again(2)", x.again(2), UNKNOWN);
        due.is("again(-1)", x.again(-1), UNKNOWN);
        due.is("again(LOW)", x.again(LOW), UNKNOWN);
        x.keep(1);
        due.is("just the other kept", x.again(0), LATE);
        x.year();
        due.is("again", x.again(1), 0);
        due.is("no acts", x.undo(), LATE);
        due.is("as often as one likes", x.again(1), 0);
        x.town();
        due.is("gone", x.again(1), LATE);
    }

    private static void promise30Whole() {
        YoungestHouse x = townOf("YH09H15C500C300C712C812");
        x.bear(0, 1);
        x.die(0);
        x.inherit(1);
        x.move(3, 0);
        x.roll(1);
        x.year();
        x.keep(0);
        String kept = Look.state(x);
        x.bear(1, 0);
        x.die(4);
        x.move(3, 1);
        x.inherit(0);
        x.roll(0);
        x.year();
        x.seed(3);
        x.see(0, 0, 1);
        due.is("again", x.again(0), 1);
        due.is("acts", x.about(6), 0);
        due.is("seen stays", x.unsee(), 1);
        due.is("the seed stays", x.seed(0), 3);
        due.holds("all as kept", Look.state(x).equals(kept));
        int[] want = {2, 5, 30, 0, 2, 1};
        for (int what = 0; what < 6; what++) due.is("about(" + what + ")", x.about(what), want[what]);
        due.is("what it has", x.child(2, 3), 2);
        due.is("goes on", x.die(1), 3);
        due.is("as kept still", x.again(0), 1);
        due.is("it lives", x.child(1, 4), 1);
    }
}
