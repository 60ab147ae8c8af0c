import java.math.BigInteger;
import java.util.ArrayDeque;
import java.util.ArrayList;
import java.util.HashMap;
import java.util.List;
import java.util.Map;
import java.util.function.IntPredicate;
import java.util.regex.Pattern;

/**
 * The document once more, as slowly and literally as it can be said, to be compared with the class:
 * undone by copies, shares by all orders, odds by all who may die, faults by all that may come behind.
 */
final class Model {
    private static final int UNKNOWN = -1, BAD = -2, LATE = -3, FULL = -4, NONE = -9;
    private static final BigInteger FACTOR = new BigInteger("6364136223846793005");
    private static final BigInteger STEP = new BigInteger("1442695040888963407");
    private static final BigInteger WORD = BigInteger.ONE.shiftLeft(64);
    private static final Map<String, Integer> FAULTS = new HashMap<>();

    private static final class Kid {
        int age, house, kind, has;
        boolean lives = true;

        Kid copy() {
            Kid k = new Kid();
            k.age = age;
            k.house = house;
            k.kind = kind;
            k.has = has;
            k.lives = lives;
            return k;
        }
    }

    private static final class Place {
        int side, worth;
        boolean inherited;

        Place copy() {
            Place p = new Place();
            p.side = side;
            p.worth = worth;
            p.inherited = inherited;
            return p;
        }
    }

    /** One state of it all that acts change. */
    private static final class State {
        List<Place> places = new ArrayList<>();
        List<Kid> kids = new ArrayList<>();
        int year;

        State copy() {
            State s = new State();
            for (Place p : places) s.places.add(p.copy());
            for (Kid k : kids) s.kids.add(k.copy());
            s.year = year;
            return s;
        }

        boolean isKid(int c) {
            return c >= 0 && c < kids.size();
        }

        boolean isPlace(int h) {
            return h >= 0 && h < places.size();
        }

        boolean lives(int c) {
            return isKid(c) && kids.get(c).lives;
        }

        /** Older ones first. */
        int byAge(int a, int b) {
            Kid x = kids.get(a);
            Kid y = kids.get(b);
            if (x.age != y.age) return y.age - x.age;
            if (x.kind == 1 && y.kind != 1) return -1;
            if (y.kind == 1 && x.kind != 1) return 1;
            return a - b;
        }

        int heirs(int h, int side, IntPredicate alive) {
            List<Integer> sons = new ArrayList<>();
            List<Integer> adopted = new ArrayList<>();
            int daughters = 0;
            for (int c = 0; c < kids.size(); c++) {
                Kid k = kids.get(c);
                if (k.house != h || !alive.test(c)) continue;
                if (k.kind < 2) sons.add(c);
                if (k.kind == 2) daughters += 1 << c;
                if (k.kind == 3) adopted.add(c);
            }
            sons.sort(this::byAge);
            adopted.sort(this::byAge);
            if (!sons.isEmpty()) return 1 << sons.get(side == 0 ? 0 : sons.size() - 1);
            if (daughters != 0) return daughters;
            return adopted.isEmpty() ? 0 : 1 << adopted.get(0);
        }

        int heirs(int h) {
            return heirs(h, places.get(h).side, this::lives);
        }

        boolean inherit(int h) {
            if (!isPlace(h) || places.get(h).inherited || heirs(h) == 0) return false;
            int heirs = heirs(h);
            for (int c = 0; c < kids.size(); c++) {
                if ((heirs >> c & 1) == 1) kids.get(c).has += places.get(h).worth / Integer.bitCount(heirs);
            }
            places.get(h).inherited = true;
            return true;
        }

        void aYear() {
            year++;
            for (Kid k : kids) k.age++;
        }

        int gets(int c) {
            State s = copy();
            for (int h = 0; h < s.places.size(); h++) s.inherit(h);
            return s.kids.get(c).has;
        }

        int housesWithHeir(List<Integer> alive) {
            int count = 0;
            for (int h = 0; h < places.size(); h++) {
                if (heirs(h, places.get(h).side, alive::contains) != 0) count++;
            }
            return count;
        }
    }

    private State now = new State();
    private final State[] kept = new State[2];
    private final ArrayDeque<State> ahead = new ArrayDeque<>();
    private final List<int[]> seen = new ArrayList<>();
    private String text = "";
    private BigInteger seed = BigInteger.ZERO;

    private void act() {
        if (ahead.size() == 14) ahead.removeFirst();
        ahead.addLast(now.copy());
    }

    // ---- the town

    int write(int letter) {
        if (letter < 0 || letter > 255) return BAD;
        if (text.length() == 48) return FULL;
        text += (char) letter;
        return text.length();
    }

    int wipe() {
        int n = text.length();
        text = "";
        return n;
    }

    private static final Pattern FORM = Pattern.compile("Y(H[01][1-9]|C[0-9][0-2][0-3])*");

    static boolean isTown(String t) {
        if (!FORM.matcher(t).matches()) return false;
        int houses = 0;
        int kids = 0;
        for (int i = 1; i < t.length(); i += t.charAt(i) == 'H' ? 3 : 4) {
            if (t.charAt(i) == 'H') houses++;
            else kids++;
            if (t.charAt(i) == 'C' && t.charAt(i + 2) - '0' >= houses) return false;
        }
        return houses <= 3 && kids <= 6;
    }

    private static boolean canBecomeTown(String t, int more) {
        if (isTown(t)) return true;
        if (more == 0) return false;
        for (char c : "0123456789HCY".toCharArray()) {
            if (canBecomeTown(t + c, more - 1)) return true;
        }
        return false;
    }

    private static int faultOf(String t) {
        for (int i = 1; i <= t.length(); i++) {
            if (!canBecomeTown(t.substring(0, i), 3)) return i - 1;
        }
        return isTown(t) ? NONE : t.length();
    }

    int fault() {
        return FAULTS.computeIfAbsent(text, Model::faultOf);
    }

    int town() {
        if (!isTown(text)) return LATE;
        now = new State();
        kept[0] = null;
        kept[1] = null;
        ahead.clear();
        String rest = text.substring(1);
        while (!rest.isEmpty()) {
            if (rest.charAt(0) == 'H') {
                Place p = new Place();
                p.side = rest.charAt(1) - '0';
                p.worth = rest.charAt(2) - '0';
                now.places.add(p);
                rest = rest.substring(3);
            } else {
                Kid k = new Kid();
                k.age = rest.charAt(1) - '0';
                k.house = rest.charAt(2) - '0';
                k.kind = rest.charAt(3) - '0';
                now.kids.add(k);
                rest = rest.substring(4);
            }
        }
        return 10 * now.places.size() + now.kids.size();
    }

    int about(int what) {
        int bits = 0;
        switch (what) {
            case 0: return now.places.size();
            case 1: return now.kids.size();
            case 2:
                for (int c = 0; c < now.kids.size(); c++) bits += now.kids.get(c).lives ? 1 << c : 0;
                return bits;
            case 3:
                for (int h = 0; h < now.places.size(); h++) bits += now.places.get(h).side << h;
                return bits;
            case 4:
                for (int h = 0; h < now.places.size(); h++) bits += now.places.get(h).inherited ? 1 << h : 0;
                return bits;
            case 5: return now.year;
            case 6: return ahead.size();
            case 7: return seen.size();
            case 8: return text.length();
            default: return BAD;
        }
    }

    int child(int child, int what) {
        if (!now.isKid(child)) return UNKNOWN;
        Kid k = now.kids.get(child);
        switch (what) {
            case 0: return k.age;
            case 1: return k.house;
            case 2: return k.kind;
            case 3: return k.has;
            case 4: return k.lives ? 1 : 0;
            default: return BAD;
        }
    }

    int heirs(int house, int side) {
        if (!now.isPlace(house)) return UNKNOWN;
        if (side < 0 || side > 2) return BAD;
        return now.heirs(house, side == 2 ? now.places.get(house).side : side, now::lives);
    }

    // ---- acts

    int bear(int house, int kind) {
        if (!now.isPlace(house)) return UNKNOWN;
        if (kind < 0 || kind > 3) return BAD;
        if (now.kids.size() == 7) return FULL;
        act();
        Kid k = new Kid();
        k.house = house;
        k.kind = kind;
        now.kids.add(k);
        return now.kids.size() - 1;
    }

    int die(int child) {
        if (!now.isKid(child)) return UNKNOWN;
        if (!now.lives(child)) return LATE;
        act();
        now.kids.get(child).lives = false;
        int live = 0;
        for (Kid k : now.kids) live += k.lives ? 1 : 0;
        return live;
    }

    int move(int child, int house) {
        if (!now.isKid(child) || !now.isPlace(house)) return UNKNOWN;
        int from = now.kids.get(child).house;
        if (from == house) return LATE;
        act();
        now.kids.get(child).house = house;
        return from;
    }

    int roll(int house) {
        if (!now.isPlace(house)) return UNKNOWN;
        act();
        now.places.get(house).side = 1 - now.places.get(house).side;
        return now.places.get(house).side;
    }

    int inherit(int house) {
        if (!now.isPlace(house)) return UNKNOWN;
        int heirs = now.heirs(house);
        if (now.places.get(house).inherited || heirs == 0) return LATE;
        act();
        now.inherit(house);
        return heirs;
    }

    int year() {
        act();
        now.aYear();
        return now.year;
    }

    int undo() {
        if (ahead.isEmpty()) return LATE;
        now = ahead.removeLast();
        return ahead.size();
    }

    // ---- what one gets

    int gets(int child) {
        return now.isKid(child) ? now.gets(child) : UNKNOWN;
    }

    int way(int child, int house) {
        if (!now.isKid(child) || !now.isPlace(house)) return UNKNOWN;
        if (!now.lives(child)) return LATE;
        int best = NONE;
        for (int size = 0; size < 7 && best == NONE; size++) {
            for (int set = 0; set < 128 && best == NONE; set++) {
                if (Integer.bitCount(set) != size || (set >> child & 1) == 1) continue;
                if ((set & ~about(2)) != 0) continue;
                int dead = set;
                int heirs = now.heirs(house, now.places.get(house).side, c -> now.lives(c) && (dead >> c & 1) == 0);
                if (heirs == 1 << child) best = set;
            }
        }
        return best;
    }

    int rollFor(int child, int what) {
        if (!now.isKid(child)) return UNKNOWN;
        if (what != 0 && what != 1) return BAD;
        int most = -1;
        int best = -1;
        for (int size = 0; size <= 3; size++) {
            for (int set = 0; set < 8; set++) {
                if (Integer.bitCount(set) != size) continue;
                State s = now.copy();
                boolean can = true;
                for (int h = 0; h < 3; h++) {
                    if ((set >> h & 1) == 0) continue;
                    if (!s.isPlace(h) || s.places.get(h).inherited) can = false;
                    else s.places.get(h).side ^= 1;
                }
                if (can && s.gets(child) > most) {
                    most = s.gets(child);
                    best = set;
                }
            }
        }
        return what == 0 ? most : best;
    }

    int mend(int child) {
        if (!now.isKid(child)) return UNKNOWN;
        int best = -1;
        int most = -1;
        for (int h = 0; h < now.places.size(); h++) {
            State s = now.copy();
            s.kids.get(child).house = h;
            if (s.gets(child) > most) {
                most = s.gets(child);
                best = h;
            }
        }
        return best;
    }

    int judge(int n, int row) {
        if (n < 1 || n > 4 || row < 0) return BAD;
        String figures = Integer.toString(row);
        if (figures.length() > 2 * n) return BAD;
        while (figures.length() < 2 * n) figures = "0" + figures;
        State s = now.copy();
        for (int i = 0; i < n; i++) {
            int which = figures.charAt(2 * i + 1) - '0';
            boolean can = false;
            switch (figures.charAt(2 * i)) {
                case '0':
                    can = which == 0;
                    if (can) s.aYear();
                    break;
                case '1':
                    can = s.lives(which);
                    if (can) s.kids.get(which).lives = false;
                    break;
                case '2':
                    can = s.isPlace(which);
                    if (can) s.places.get(which).side ^= 1;
                    break;
                case '3':
                    can = s.inherit(which);
                    break;
                default:
                    break;
            }
            if (!can) return i;
        }
        return NONE;
    }

    private static int part(BigInteger above, BigInteger below, boolean upper) {
        BigInteger divisor = above.gcd(below);
        return (upper ? above : below).divide(divisor).intValueExact();
    }

    int share(int child, boolean upper) {
        if (!now.isKid(child)) return UNKNOWN;
        if (!now.lives(child)) return upper ? 0 : 1;
        List<Integer> alive = new ArrayList<>();
        for (int c = 0; c < now.kids.size(); c++) if (now.lives(c)) alive.add(c);
        long[] sums = new long[2];
        inAllOrders(new ArrayList<>(), alive, child, sums);
        return part(BigInteger.valueOf(sums[0]), BigInteger.valueOf(sums[1]), upper);
    }

    private void inAllOrders(List<Integer> come, List<Integer> left, int child, long[] sums) {
        if (left.isEmpty()) {
            int at = come.indexOf(child);
            sums[0] += now.housesWithHeir(come.subList(0, at + 1)) - now.housesWithHeir(come.subList(0, at));
            sums[1]++;
            return;
        }
        for (int i = 0; i < left.size(); i++) {
            List<Integer> then = new ArrayList<>(come);
            then.add(left.get(i));
            List<Integer> rest = new ArrayList<>(left);
            rest.remove(i);
            inAllOrders(then, rest, child, sums);
        }
    }

    // ---- seen

    int see(int house, int child, int lived) {
        if (!now.isPlace(house) || !now.isKid(child)) return UNKNOWN;
        if (lived < 0 || lived >= 1 << now.kids.size() || (lived >> child & 1) == 0) return BAD;
        if (seen.size() == 6) return FULL;
        seen.add(new int[] {house, child, lived});
        return seen.size();
    }

    int unsee() {
        int n = seen.size();
        seen.clear();
        return n;
    }

    private int wrongBy(int sides) {
        int wrong = 0;
        for (int[] s : seen) {
            boolean there = now.isPlace(s[0]) && now.isKid(s[1]);
            for (int c = 0; c < 7; c++) if ((s[2] >> c & 1) == 1 && !now.isKid(c)) there = false;
            if (!there) continue;
            int heirs = now.heirs(s[0], sides >> s[0] & 1, c -> (s[2] >> c & 1) == 1);
            if ((heirs >> s[1] & 1) == 0) wrong++;
        }
        return wrong;
    }

    int sides(int what) {
        if (what < 0 || what > 4) return BAD;
        int n = now.places.size();
        List<Integer> right = new ArrayList<>();
        int least = 0;
        for (int s = (1 << n) - 1; s >= 0; s--) {
            if (wrongBy(s) == 0) right.add(s);
            if (wrongBy(s) <= wrongBy(least)) least = s;
        }
        if (what == 0) return right.size();
        if (what == 3) return least;
        if (what == 4) return wrongBy(least);
        if (right.isEmpty()) return NONE;
        int bits = 0;
        for (int h = 0; h < n; h++) {
            int house = h;
            int want = what == 1 ? 1 : 0;
            if (right.stream().allMatch(s -> (s >> house & 1) == want)) bits |= 1 << h;
        }
        return bits;
    }

    // ---- rests, odds

    int rests(int child, int other, int what) {
        if (!now.isKid(child) || !now.isKid(other)) return UNKNOWN;
        if (child == other || what < 0 || what > 1) return BAD;
        if (!now.lives(child) || !now.lives(other)) return LATE;
        if (now.kids.get(child).house != now.kids.get(other).house) return LATE;
        int[][][] has = new int[2][2][2];
        for (int i = 0; i < 2; i++) {
            for (int j = 0; j < 2; j++) {
                State s = now.copy();
                s.kids.get(child).lives = i == 1;
                s.kids.get(other).lives = j == 1;
                int h = now.kids.get(child).house;
                int heirs = s.heirs(h);
                int each = heirs == 0 ? 0 : s.places.get(h).worth / Integer.bitCount(heirs);
                has[i][j][0] = i == 0 ? 3 : (heirs >> child & 1) * each;
                has[i][j][1] = j == 0 ? 3 : (heirs >> other & 1) * each;
            }
        }
        int count = 0;
        int first = NONE;
        for (int i = 1; i >= 0; i--) {
            for (int j = 1; j >= 0; j--) {
                if (has[1 - i][j][0] > has[i][j][0] || has[i][1 - j][1] > has[i][j][1]) continue;
                count++;
                first = 10 * i + j;
            }
        }
        return what == 0 ? count : first;
    }

    int odds(int child, int x, boolean upper) {
        if (!now.isKid(child)) return UNKNOWN;
        if (x < 0 || x > 10) return BAD;
        int living = about(2);
        BigInteger cases = BigInteger.ZERO;
        for (int set = 0; set < 128; set++) {
            if ((set & ~living) != 0) continue;
            int left = set;
            int h = now.kids.get(child).house;
            int heirs = now.heirs(h, now.places.get(h).side, c -> (left >> c & 1) == 1);
            if ((heirs >> child & 1) == 0) continue;
            BigInteger chance = BigInteger.ONE;
            for (int c = 0; c < now.kids.size(); c++) {
                if (now.lives(c)) chance = chance.multiply(BigInteger.valueOf((left >> c & 1) == 1 ? 10 - x : x));
            }
            cases = cases.add(chance);
        }
        return part(cases, BigInteger.TEN.pow(Integer.bitCount(living)), upper);
    }

    long seed(long v) {
        long was = seed.longValue();
        seed = BigInteger.valueOf(v).mod(WORD);
        return was;
    }

    int towns(int m) {
        if (m < 1 || m > 30) return BAD;
        State s = now.copy();
        int changes = 0;
        for (int i = 0; i < m; i++) {
            seed = seed.multiply(FACTOR).add(STEP).mod(WORD);
            int pick = seed.shiftRight(33).mod(BigInteger.valueOf(12)).intValue();
            State then = s.copy();
            if (pick <= 6 && then.isKid(pick)) then.kids.get(pick).lives = false;
            if (pick >= 7 && pick <= 9 && then.isPlace(pick - 7)) then.places.get(pick - 7).side ^= 1;
            if (pick >= 10) then.aYear();
            for (int h = 0; h < s.places.size(); h++) if (s.heirs(h) != then.heirs(h)) changes++;
            s = then;
        }
        return changes;
    }

    // ---- slots

    int keep(int slot) {
        if (slot != 0 && slot != 1) return UNKNOWN;
        kept[slot] = now.copy();
        return now.year;
    }

    int again(int slot) {
        if (slot != 0 && slot != 1) return UNKNOWN;
        if (kept[slot] == null) return LATE;
        now = kept[slot].copy();
        ahead.clear();
        return now.year;
    }
}
