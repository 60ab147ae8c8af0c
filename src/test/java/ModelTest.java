/** Long runs of calls by chance (always the same ones): the class and the model must answer alike. */
public final class ModelTest {
    private static final int RUNS = 1500;
    private static final int CALLS = 460;
    private static final int[] ODD = {-1, 3, 7, 8, 10, 11, 31, 32, 33, 64, 100, 127, 128, 255, 256, 1 << 16,
        Integer.MAX_VALUE, Integer.MIN_VALUE, Integer.MIN_VALUE + 1, -2, -9};
    private static final Due due = new Due("ModelTest");

    private long chance;
    private YoungestHouse house;
    private Model model;
    private int run;
    private int calls;

    public static void main(String[] args) {
        for (int run = 0; run < RUNS; run++) new ModelTest().aRun(run);
        due.end();
    }

    private int below(int n) {
        chance = chance * 2862933555777941757L + 3037000493L;
        return (int) ((chance >>> 33) % n);
    }

    /** Mostly one of 0 .. n - 1, at times one that is far off. */
    private int near(int n) {
        return below(25) == 0 ? ODD[below(ODD.length)] : below(n);
    }

    private void same(String call, long got, long want) {
        calls++;
        due.is("run " + run + ", call " + calls + ": " + call, got, want);
    }

    private void aRun(int number) {
        run = number;
        chance = number * 7919L + 1;
        house = new YoungestHouse();
        model = new Model();
        if (below(10) != 0) tellTown();
        while (calls < CALLS) {
            int kind = below(100);
            if (kind < 1) tellTown();
            else if (kind < 4) theText();
            else if (kind < 40) anAct();
            else if (kind < 55) aLook();
            else if (kind < 75) whatOneGets();
            else if (kind < 85) theSeen();
            else if (kind < 95) restsAndOdds();
            else theSlots();
        }
    }

    private void tellTown() {
        StringBuilder text = new StringBuilder("Y");
        int houses = 0;
        int children = 0;
        int parts = below(11);
        for (int i = 0; i < parts; i++) {
            if (houses < 3 && (houses == 0 || below(3) == 0)) {
                text.append('H').append(below(2)).append(1 + below(9));
                houses++;
            } else if (children < 6) {
                int age = below(2) == 0 ? 4 : below(10);
                text.append('C').append(age).append(below(houses)).append(below(4));
                children++;
            }
        }
        if (below(8) == 0) text.setCharAt(below(text.length()), "0123456789HCYx".charAt(below(14)));
        if (below(12) == 0) text.setLength(below(text.length() + 1));
        if (below(12) == 0) text.append("YHC019".charAt(below(6)));
        same("wipe()", house.wipe(), model.wipe());
        for (int i = 0; i < text.length(); i++) write(text.charAt(i));
        same("fault() of " + text, house.fault(), model.fault());
        same("town() of " + text, house.town(), model.town());
    }

    private void write(int letter) {
        same("write(" + letter + ")", house.write(letter), model.write(letter));
    }

    private void theText() {
        switch (below(8)) {
            case 0: same("wipe()", house.wipe(), model.wipe()); break;
            case 1: same("fault()", house.fault(), model.fault()); break;
            case 2: same("town()", house.town(), model.town()); break;
            case 3: write(near(256)); break;
            default: write("YHC0123".charAt(below(7))); break;
        }
    }

    private void anAct() {
        int c = near(7);
        int h = near(3);
        int k = near(4);
        switch (below(12)) {
            case 0: case 1: same("bear(" + h + ", " + k + ")", house.bear(h, k), model.bear(h, k)); break;
            case 2: same("die(" + c + ")", house.die(c), model.die(c)); break;
            case 3: case 4: same("move(" + c + ", " + h + ")", house.move(c, h), model.move(c, h)); break;
            case 5: case 6: same("roll(" + h + ")", house.roll(h), model.roll(h)); break;
            case 7: case 8: same("inherit(" + h + ")", house.inherit(h), model.inherit(h)); break;
            case 9: same("year()", house.year(), model.year()); break;
            default: same("undo()", house.undo(), model.undo()); break;
        }
    }

    private void aLook() {
        int what = near(9);
        int c = near(7);
        int h = near(3);
        int of = near(5);
        int side = near(3);
        switch (below(3)) {
            case 0: same("about(" + what + ")", house.about(what), model.about(what)); break;
            case 1: same("child(" + c + ", " + of + ")", house.child(c, of), model.child(c, of)); break;
            default: same("heirs(" + h + ", " + side + ")", house.heirs(h, side), model.heirs(h, side)); break;
        }
    }

    private void whatOneGets() {
        int c = near(7);
        int h = near(3);
        int what = near(2);
        switch (below(6)) {
            case 0: same("gets(" + c + ")", house.gets(c), model.gets(c)); break;
            case 1: same("way(" + c + ", " + h + ")", house.way(c, h), model.way(c, h)); break;
            case 2: same("rollFor(" + c + ", " + what + ")", house.rollFor(c, what), model.rollFor(c, what)); break;
            case 3: same("mend(" + c + ")", house.mend(c), model.mend(c)); break;
            case 4: judge(); break;
            default: share(c); break;
        }
    }

    private void judge() {
        int n = below(30) == 0 ? near(6) : 1 + below(4);
        int row = 0;
        for (int i = 0; i < n && i < 5; i++) {
            int act = below(4);
            row = row * 100 + act * 10 + (act == 0 ? below(20) / 19 : act == 1 ? below(7) : below(3));
        }
        if (below(30) == 0) row = row * 100 + below(100);
        if (below(30) == 0) row = ODD[below(ODD.length)];
        same("judge(" + n + ", " + row + ")", house.judge(n, row), model.judge(n, row));
    }

    private void share(int c) {
        // All orders of seven take long: so not each time.
        if (Integer.bitCount(model.about(2)) > 5 && below(40) != 0) return;
        boolean upper = below(2) == 0;
        same("share(" + c + ", " + upper + ")", house.share(c, upper), model.share(c, upper));
    }

    private void theSeen() {
        int c = near(7);
        int h = near(3);
        int lived = below(10) == 0 ? near(128) : below(128) & model.about(2) | (c >= 0 && c < 7 ? 1 << c : 0);
        int what = near(5);
        switch (below(20)) {
            case 0: same("unsee()", house.unsee(), model.unsee()); break;
            case 1: case 2: case 3: case 4: case 5: case 6:
                same("see(" + h + ", " + c + ", " + lived + ")", house.see(h, c, lived), model.see(h, c, lived));
                break;
            default: same("sides(" + what + ")", house.sides(what), model.sides(what)); break;
        }
    }

    private void restsAndOdds() {
        int c = near(7);
        int other = near(7);
        int what = near(2);
        int x = near(11);
        int m = 1 + near(30);
        boolean upper = below(2) == 0;
        long v = below(3) == 0 ? below(100) : chance * 31;
        switch (below(10)) {
            case 0: same("seed(" + v + ")", house.seed(v), model.seed(v)); break;
            case 1: case 2: same("towns(" + m + ")", house.towns(m), model.towns(m)); break;
            case 3: case 4: case 5:
                same("odds(" + c + ", " + x + ", " + upper + ")", house.odds(c, x, upper), model.odds(c, x, upper));
                break;
            default:
                same("rests(" + c + ", " + other + ", " + what + ")",
                    house.rests(c, other, what), model.rests(c, other, what));
                break;
        }
    }

    private void theSlots() {
        int slot = near(2);
        if (below(2) == 0) same("keep(" + slot + ")", house.keep(slot), model.keep(slot));
        else same("again(" + slot + ")", house.again(slot), model.again(slot));
    }
}
