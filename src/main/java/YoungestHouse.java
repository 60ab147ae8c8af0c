/**
 * A town in which the eldest son inherits on one side of the street and the youngest on the other.
 * Every row is made with the object, so that the calls themselves make nothing.
 */
public final class YoungestHouse {
    public static final int UNKNOWN = -1, BAD = -2, LATE = -3, FULL = -4, NONE = -9;

    private static final int MOST_BYTES = 48;
    private static final int MOST_HOUSES = 3;
    private static final int MOST_CHILDREN = 7;
    private static final int MOST_TOLD_CHILDREN = 6;
    private static final int MOST_ACTS = 14;
    private static final int MOST_SEEN = 6;
    private static final int MOST_THINGS = 4;
    private static final int MOST_TOWNS = 30;
    private static final int SLOTS = 2;

    private static final int ELDEST = 0, YOUNGEST = 1, OWN_SIDE = 2;
    private static final int SON = 0, TWIN = 1, DAUGHTER = 2, ADOPTED = 3;
    private static final int BORN = 0, DIED = 1, MOVED = 2, ROLLED = 3, INHERITED = 4, A_YEAR = 5;
    private static final int WHO_LEAVES_HAS = 3;
    private static final int TENTHS = 10;
    /** More than Euclid's way takes for any two ints. */
    private static final int MOST_STEPS = 100;

    private static final long SEED_FACTOR = 6364136223846793005L;
    private static final long SEED_STEP = 1442695040888963407L;

    private final Text text;
    private final Town now;
    /** Where what changes nothing is tried out. */
    private final Town trial;
    private final Town firstSlot;
    private final Town secondSlot;
    private int keptSlots;
    private final Acts acts;
    private final Sightings seen;
    private long seedNow;

    public YoungestHouse() {
        text = new Text();
        now = new Town();
        trial = new Town();
        firstSlot = new Town();
        secondSlot = new Town();
        acts = new Acts();
        seen = new Sightings();
    }

    // ---- the town

    public int write(int letter) {
        if (letter < 0 || letter > 255) return BAD;
        if (text.length >= MOST_BYTES) return FULL;
        return text.append(letter);
    }

    public int wipe() {
        int length = text.length;
        text.length = 0;
        return length;
    }

    public int fault() {
        return text.readInto(trial);
    }

    public int town() {
        if (text.readInto(trial) != NONE) return LATE;
        now.take(trial);
        acts.count = 0;
        keptSlots = 0;
        return 10 * now.houses + now.children;
    }

    public int about(int what) {
        switch (what) {
            case 0: return now.houses;
            case 1: return now.children;
            case 2: return now.living;
            case 3: return now.sideBits;
            case 4: return now.inherited;
            case 5: return now.theYear;
            case 6: return acts.count;
            case 7: return seen.count;
            case 8: return text.length;
            default: return BAD;
        }
    }

    public int child(int child, int what) {
        if (!now.hasChild(child)) return UNKNOWN;
        switch (what) {
            case 0: return now.ageOf(child);
            case 1: return now.home.get(child);
            case 2: return now.kind.get(child);
            case 3: return now.wealth.get(child);
            case 4: return now.isAlive(child) ? 1 : 0;
            default: return BAD;
        }
    }

    public int heirs(int house, int side) {
        if (!now.hasHouse(house)) return UNKNOWN;
        if (side < ELDEST || side > OWN_SIDE) return BAD;
        return now.heirsAmong(house, side == OWN_SIDE ? now.sideOf(house) : side, now.living);
    }

    // ---- acts

    public int bear(int house, int kind) {
        if (!now.hasHouse(house)) return UNKNOWN;
        if (kind < SON || kind > ADOPTED) return BAD;
        if (now.children >= MOST_CHILDREN) return FULL;
        int born = now.addChild(0, house, kind);
        acts.add(BORN, born, 0);
        return born;
    }

    public int die(int child) {
        if (!now.hasChild(child)) return UNKNOWN;
        if (!now.isAlive(child)) return LATE;
        now.flipLife(child);
        acts.add(DIED, child, 0);
        return Integer.bitCount(now.living);
    }

    public int move(int child, int house) {
        if (!now.hasChild(child) || !now.hasHouse(house)) return UNKNOWN;
        int from = now.home.get(child);
        if (from == house) return LATE;
        now.home.set(child, house);
        acts.add(MOVED, child, from);
        return from;
    }

    public int roll(int house) {
        if (!now.hasHouse(house)) return UNKNOWN;
        now.flipSide(house);
        acts.add(ROLLED, house, 0);
        return now.sideOf(house);
    }

    public int inherit(int house) {
        if (!now.hasHouse(house)) return UNKNOWN;
        if (!now.canPass(house)) return LATE;
        int heirs = now.heirsOf(house);
        now.passTo(house, heirs);
        acts.add(INHERITED, house, heirs);
        return heirs;
    }

    public int year() {
        now.theYear++;
        acts.add(A_YEAR, 0, 0);
        return now.theYear;
    }

    public int undo() {
        if (acts.count <= 0) return LATE;
        acts.takeLastBack(now);
        return acts.count;
    }

    // ---- what one gets

    public int gets(int child) {
        if (!now.hasChild(child)) return UNKNOWN;
        return now.wealthInAll(child);
    }

    public int way(int child, int house) {
        if (!now.hasChild(child) || !now.hasHouse(house)) return UNKNOWN;
        if (!now.isAlive(child)) return LATE;
        return now.fewestInTheWay(child, house);
    }

    public int rollFor(int child, int what) {
        if (!now.hasChild(child)) return UNKNOWN;
        if (what < 0 || what > 1) return BAD;
        trial.take(now);
        int most = -1;
        int best = 0;
        for (int set = 0; set < 1 << MOST_HOUSES; set++) {
            if ((set & ~now.housesLeft()) != 0) continue;
            trial.sideBits = now.sideBits ^ set;
            int much = trial.wealthInAll(child);
            boolean fewer = Integer.bitCount(set) < Integer.bitCount(best);
            if (much > most || much == most && fewer) {
                most = much;
                best = set;
            }
        }
        return what == 0 ? most : best;
    }

    public int mend(int child) {
        if (!now.hasChild(child)) return UNKNOWN;
        trial.take(now);
        int most = -1;
        int best = 0;
        for (int house = 0; house < now.houses; house++) {
            trial.home.set(child, house);
            int much = trial.wealthInAll(child);
            if (much > most) {
                most = much;
                best = house;
            }
        }
        return best;
    }

    public int judge(int n, int row) {
        if (n < 1 || n > MOST_THINGS || row < 0) return BAD;
        int unit = 1;
        for (int i = 1; i < n; i++) unit *= 100;
        if (row / 100 >= unit) return BAD;
        trial.take(now);
        for (int place = 0; place < n && unit > 0; place++) {
            int thing = row / unit % 100;
            if (!trial.doTold(thing / 10, thing % 10)) return place;
            unit /= 100;
        }
        return NONE;
    }

    public int share(int child, boolean upper) {
        if (!now.hasChild(child)) return UNKNOWN;
        if (!now.isAlive(child)) return inLeastTerms(0, 1, upper);
        // A house has an heir from the first of its children on, and each of them is as likely the first.
        return inLeastTerms(1, Integer.bitCount(now.broodOf(child)), upper);
    }

    // ---- seen

    public int see(int house, int child, int lived) {
        if (!now.hasHouse(house) || !now.hasChild(child)) return UNKNOWN;
        if (lived < 0 || lived >= 1 << now.children || !isIn(lived, child)) return BAD;
        if (seen.count >= MOST_SEEN) return FULL;
        return seen.add(house, child, lived);
    }

    public int unsee() {
        int count = seen.count;
        seen.count = 0;
        return count;
    }

    public int sides(int what) {
        switch (what) {
            case 0: return seen.countRight(now);
            case 1: return seen.alwaysOn(YOUNGEST, now);
            case 2: return seen.alwaysOn(ELDEST, now);
            case 3: return seen.leastWrong(now);
            case 4: return seen.countWrong(now, seen.leastWrong(now));
            default: return BAD;
        }
    }

    // ---- rests, odds

    public int rests(int child, int other, int what) {
        if (!now.hasChild(child) || !now.hasChild(other)) return UNKNOWN;
        if (child == other || what < 0 || what > 1) return BAD;
        if (!now.isAlive(child) || !now.isAlive(other)) return LATE;
        if (now.home.get(child) != now.home.get(other)) return LATE;
        int count = 0;
        int first = NONE;
        for (int pair = 0; pair < 4; pair++) {
            int one = pair / 2;
            int two = pair % 2;
            int leavers = (one == 0 ? bit(child) : 0) | (two == 0 ? bit(other) : 0);
            if (!now.isContent(child, leavers) || !now.isContent(other, leavers)) continue;
            if (count == 0) first = 10 * one + two;
            count++;
        }
        return what == 0 ? count : first;
    }

    public int odds(int child, int x, boolean upper) {
        if (!now.hasChild(child)) return UNKNOWN;
        if (x < 0 || x > TENTHS) return BAD;
        if (!now.isAlive(child)) return inLeastTerms(0, 1, upper);
        int all = power(TENTHS, Integer.bitCount(now.broodOf(child)));
        return inLeastTerms(now.casesAsHeir(child, x), all, upper);
    }

    public long seed(long v) {
        long before = seedNow;
        seedNow = v;
        return before;
    }

    public int towns(int m) {
        if (m < 1 || m > MOST_TOWNS) return BAD;
        trial.take(now);
        int changes = 0;
        int before = trial.allHeirs();
        for (int i = 0; i < m; i++) {
            seedNow = seedNow * SEED_FACTOR + SEED_STEP;
            trial.stir((int) ((seedNow >>> 33) % 12));
            int after = trial.allHeirs();
            changes += trial.countDiffering(before, after);
            before = after;
        }
        return changes;
    }

    // ---- slots

    public int keep(int slot) {
        if (slot < 0 || slot >= SLOTS) return UNKNOWN;
        slotAt(slot).take(now);
        keptSlots |= bit(slot);
        return now.theYear;
    }

    public int again(int slot) {
        if (slot < 0 || slot >= SLOTS) return UNKNOWN;
        if (!isIn(keptSlots, slot)) return LATE;
        now.take(slotAt(slot));
        acts.count = 0;
        return now.theYear;
    }

    private Town slotAt(int slot) {
        return slot == 0 ? firstSlot : secondSlot;
    }

    // ---- numbers

    private static int bit(int place) {
        return 1 << place;
    }

    private static boolean isIn(int bits, int place) {
        return place >= 0 && place < MOST_CHILDREN && (bits >> place & 1) == 1;
    }

    private static int power(int base, int times) {
        int product = 1;
        for (int i = 0; i < times; i++) product *= base;
        return product;
    }

    private static int inLeastTerms(int above, int below, boolean upper) {
        int divisor = above;
        int rest = below;
        for (int step = 0; rest != 0 && step < MOST_STEPS; step++) {
            int next = divisor % rest;
            divisor = rest;
            rest = next;
        }
        if (divisor == 0) return 0;
        return (upper ? above : below) / divisor;
    }

    /** Numbers in a row; outside of it 0 is read and nothing is written, so that no index can fail. */
    private static final class Row {
        private final int[] cells;

        Row(int length) {
            cells = new int[Math.max(length, 0)];
        }

        int get(int place) {
            return place >= 0 && place < cells.length ? cells[place] : 0;
        }

        void set(int place, int value) {
            if (place >= 0 && place < cells.length) cells[place] = value;
        }

        void take(Row other) {
            for (int i = 0; i < cells.length; i++) cells[i] = other.get(i);
        }

        void dropFirst() {
            for (int i = 1; i < cells.length; i++) cells[i - 1] = cells[i];
        }
    }

    /** THE TEXT. */
    private static final class Text {
        private final Row bytes;
        private int length;

        Text() {
            bytes = new Row(MOST_BYTES);
        }

        int append(int letter) {
            bytes.set(length, letter);
            length++;
            return length;
        }

        /** FAULT. The town that the text tells as far as it has none is read into TOLD. */
        int readInto(Town told) {
            told.clear();
            if (!isFrom(0, 'Y', 'Y')) return 0;
            int place = 1;
            while (place < length) {
                boolean isHouse = bytes.get(place) == 'H';
                int fault = isHouse ? faultOfHouse(place, told) : faultOfChild(place, told);
                if (fault != NONE) return fault;
                if (isHouse) {
                    told.addHouse(figure(place + 1), figure(place + 2));
                } else {
                    told.addChild(figure(place + 1), figure(place + 2), figure(place + 3));
                }
                place += isHouse ? 3 : 4;
            }
            return NONE;
        }

        private int faultOfHouse(int place, Town told) {
            if (told.houses >= MOST_HOUSES) return place;
            if (!isFrom(place + 1, '0', '1')) return place + 1;
            if (!isFrom(place + 2, '1', '9')) return place + 2;
            return NONE;
        }

        private int faultOfChild(int place, Town told) {
            if (!isFrom(place, 'C', 'C')) return place;
            // With no house ahead of it no child can go on, so its C is the fault.
            if (told.houses == 0 || told.children >= MOST_TOLD_CHILDREN) return place;
            if (!isFrom(place + 1, '0', '9')) return place + 1;
            if (!isFrom(place + 2, '0', '0' + told.houses - 1)) return place + 2;
            if (!isFrom(place + 3, '0', '3')) return place + 3;
            return NONE;
        }

        /** False behind the end, too: so a text that only breaks off has its fault at its length. */
        private boolean isFrom(int place, int least, int most) {
            if (place >= length) return false;
            int letter = bytes.get(place);
            return letter >= least && letter <= most;
        }

        private int figure(int place) {
            return bytes.get(place) - '0';
        }
    }

    /** Houses and children as they are at one time; what slots keep, too. */
    private static final class Town {
        private int houses;
        private int children;
        private int living;
        private int sideBits;
        private int inherited;
        private int theYear;
        private final Row worth;
        /** The year of birth, so that a year more makes all older. */
        private final Row birth;
        private final Row home;
        private final Row kind;
        /** What each child HAS. */
        private final Row wealth;

        Town() {
            worth = new Row(MOST_HOUSES);
            birth = new Row(MOST_CHILDREN);
            home = new Row(MOST_CHILDREN);
            kind = new Row(MOST_CHILDREN);
            wealth = new Row(MOST_CHILDREN);
        }

        void clear() {
            houses = 0;
            children = 0;
            living = 0;
            sideBits = 0;
            inherited = 0;
            theYear = 0;
        }

        void take(Town other) {
            houses = other.houses;
            children = other.children;
            living = other.living;
            sideBits = other.sideBits;
            inherited = other.inherited;
            theYear = other.theYear;
            worth.take(other.worth);
            birth.take(other.birth);
            home.take(other.home);
            kind.take(other.kind);
            wealth.take(other.wealth);
        }

        // -- what there is

        boolean hasHouse(int house) {
            return house >= 0 && house < houses;
        }

        boolean hasChild(int child) {
            return child >= 0 && child < children;
        }

        boolean isAlive(int child) {
            return hasChild(child) && isIn(living, child);
        }

        int sideOf(int house) {
            return isIn(sideBits, house) ? YOUNGEST : ELDEST;
        }

        int ageOf(int child) {
            return theYear - birth.get(child);
        }

        /** Houses that are not inherited. */
        int housesLeft() {
            return bit(houses) - 1 & ~inherited;
        }

        /** Those that live of the house of a child. */
        int broodOf(int child) {
            int brood = 0;
            for (int c = 0; c < children; c++) {
                if (isAlive(c) && home.get(c) == home.get(child)) brood |= bit(c);
            }
            return brood;
        }

        // -- changes

        void addHouse(int side, int itsWorth) {
            worth.set(houses, itsWorth);
            if (side == YOUNGEST) sideBits |= bit(houses);
            houses++;
        }

        int addChild(int age, int house, int itsKind) {
            int number = children;
            birth.set(number, theYear - age);
            home.set(number, house);
            kind.set(number, itsKind);
            wealth.set(number, 0);
            living |= bit(number);
            children++;
            return number;
        }

        void dropLastChild() {
            children--;
            living &= ~bit(children);
        }

        void flipLife(int child) {
            living ^= bit(child);
        }

        void flipSide(int house) {
            sideBits ^= bit(house);
        }

        boolean canPass(int house) {
            // A house that has an heir by one side has one by the other, too.
            return hasHouse(house) && !isIn(inherited, house) && heirsAmong(house, ELDEST, living) != 0;
        }

        void passTo(int house, int heirs) {
            inherited |= bit(house);
            enrich(heirs, partOf(house, heirs));
        }

        void takeBackFrom(int house, int heirs) {
            inherited &= ~bit(house);
            enrich(heirs, -partOf(house, heirs));
        }

        private void enrich(int heirs, int by) {
            for (int c = 0; c < children; c++) {
                if (isIn(heirs, c)) wealth.set(c, wealth.get(c) + by);
            }
        }

        /** Does what two figures tell; false: it can not be. */
        boolean doTold(int act, int which) {
            switch (act) {
                case 0:
                    if (which != 0) return false;
                    theYear++;
                    return true;
                case 1:
                    if (!isAlive(which)) return false;
                    flipLife(which);
                    return true;
                case 2:
                    if (!hasHouse(which)) return false;
                    flipSide(which);
                    return true;
                case 3:
                    if (!canPass(which)) return false;
                    passTo(which, heirsOf(which));
                    return true;
                default:
                    return false;
            }
        }

        /** What chance does to a town: 0 .. 6 a child, 7 .. 9 a house, else a year. */
        void stir(int pick) {
            if (pick < MOST_CHILDREN) {
                if (isAlive(pick)) flipLife(pick);
            } else if (pick < MOST_CHILDREN + MOST_HOUSES) {
                if (hasHouse(pick - MOST_CHILDREN)) flipSide(pick - MOST_CHILDREN);
            } else {
                theYear++;
            }
        }

        // -- heirs

        int heirsOf(int house) {
            return heirsAmong(house, sideOf(house), living);
        }

        /** The heirs, if just those who are in ALIVE lived. */
        int heirsAmong(int house, int side, int alive) {
            int sons = 0;
            int daughters = 0;
            int adopted = 0;
            for (int c = 0; c < children; c++) {
                if (home.get(c) != house || !isIn(alive, c)) continue;
                int itsKind = kind.get(c);
                if (itsKind == DAUGHTER) daughters |= bit(c);
                else if (itsKind == ADOPTED) adopted |= bit(c);
                else sons |= bit(c);
            }
            if (sons != 0) return firstOf(sons, side == ELDEST);
            return daughters != 0 ? daughters : firstOf(adopted, true);
        }

        /** The oldest (or the youngest) of some children, as bits: none, if there are none. */
        private int firstOf(int set, boolean oldest) {
            int first = -1;
            for (int c = 0; c < children; c++) {
                if (isIn(set, c) && (first < 0 || isOlder(c, first) == oldest)) first = c;
            }
            return first < 0 ? 0 : bit(first);
        }

        private boolean isOlder(int child, int other) {
            if (birth.get(child) != birth.get(other)) return birth.get(child) < birth.get(other);
            boolean isTwin = kind.get(child) == TWIN;
            if (isTwin != (kind.get(other) == TWIN)) return isTwin;
            return child < other;
        }

        /** The heirs of all houses in one number, to be compared. */
        int allHeirs() {
            int all = 0;
            for (int house = 0; house < houses; house++) {
                all |= heirsOf(house) << MOST_CHILDREN * house;
            }
            return all;
        }

        int countDiffering(int before, int after) {
            int count = 0;
            for (int house = 0; house < houses; house++) {
                int differing = (before ^ after) >> MOST_CHILDREN * house;
                if ((differing & bit(MOST_CHILDREN) - 1) != 0) count++;
            }
            return count;
        }

        // -- what one gets

        /** What each of some heirs of a house has of it. */
        int partOf(int house, int heirs) {
            return heirs == 0 ? 0 : worth.get(house) / Integer.bitCount(heirs);
        }

        /** What a child has when all houses are inherited: only its own one can give it more. */
        int wealthInAll(int child) {
            int house = home.get(child);
            int heirs = isIn(inherited, house) ? 0 : heirsOf(house);
            return wealth.get(child) + (isIn(heirs, child) ? partOf(house, heirs) : 0);
        }

        int fewestInTheWay(int child, int house) {
            if (home.get(child) != house) return NONE;
            int others = broodOf(child) & ~bit(child);
            // All others of its house do; so some set always does.
            int best = others;
            for (int set = 0; set < bit(MOST_CHILDREN); set++) {
                if ((set & ~others) != 0 || Integer.bitCount(set) >= Integer.bitCount(best)) continue;
                if (heirsAmong(house, sideOf(house), living & ~set) == bit(child)) best = set;
            }
            return best;
        }

        /** Whether a child would not have more by the other choice, when LEAVERS leave. */
        boolean isContent(int child, int leavers) {
            return restOf(child, leavers) >= restOf(child, leavers ^ bit(child));
        }

        private int restOf(int child, int leavers) {
            if (isIn(leavers, child)) return WHO_LEAVES_HAS;
            int house = home.get(child);
            int heirs = heirsAmong(house, sideOf(house), living & ~leavers);
            return isIn(heirs, child) ? partOf(house, heirs) : 0;
        }

        /** In how many of 10 to the power of its brood the child lives on and is an heir. */
        int casesAsHeir(int child, int x) {
            int house = home.get(child);
            int brood = broodOf(child);
            int size = Integer.bitCount(brood);
            int cases = 0;
            for (int left = 0; left < bit(MOST_CHILDREN); left++) {
                if ((left & ~brood) != 0 || !isIn(left, child)) continue;
                if (!isIn(heirsAmong(house, sideOf(house), left), child)) continue;
                int alive = Integer.bitCount(left);
                cases += power(TENTHS - x, alive) * power(x, size - alive);
            }
            return cases;
        }
    }

    /** ACTS: what was done, to whom or what, and what one must know to undo it. */
    private static final class Acts {
        private final Row what;
        private final Row which;
        private final Row before;
        private int count;

        Acts() {
            what = new Row(MOST_ACTS);
            which = new Row(MOST_ACTS);
            before = new Row(MOST_ACTS);
        }

        void add(int act, int toWhich, int known) {
            if (count >= MOST_ACTS) {
                what.dropFirst();
                which.dropFirst();
                before.dropFirst();
                count--;
            }
            what.set(count, act);
            which.set(count, toWhich);
            before.set(count, known);
            count++;
        }

        void takeLastBack(Town town) {
            if (count <= 0) return;
            count--;
            int done = which.get(count);
            int known = before.get(count);
            switch (what.get(count)) {
                case BORN:
                    town.dropLastChild();
                    break;
                case DIED:
                    town.flipLife(done);
                    break;
                case MOVED:
                    town.home.set(done, known);
                    break;
                case ROLLED:
                    town.flipSide(done);
                    break;
                case INHERITED:
                    town.takeBackFrom(done, known);
                    break;
                default:
                    town.theYear--;
                    break;
            }
        }
    }

    /** What old men remember: when just some lived, a child was an heir of a house. */
    private static final class Sightings {
        private final Row house;
        private final Row child;
        private final Row lived;
        private int count;

        Sightings() {
            house = new Row(MOST_SEEN);
            child = new Row(MOST_SEEN);
            lived = new Row(MOST_SEEN);
        }

        int add(int itsHouse, int itsChild, int whoLived) {
            house.set(count, itsHouse);
            child.set(count, itsChild);
            lived.set(count, whoLived);
            count++;
            return count;
        }

        int countRight(Town town) {
            int right = 0;
            for (int sides = 0; sides < bit(town.houses); sides++) {
                if (countWrong(town, sides) == 0) right++;
            }
            return right;
        }

        /** The houses that are on one side in all that is right; NONE: nothing is right. */
        int alwaysOn(int side, Town town) {
            int always = NONE;
            for (int sides = 0; sides < bit(town.houses); sides++) {
                if (countWrong(town, sides) != 0) continue;
                int on = side == YOUNGEST ? sides : bit(town.houses) - 1 & ~sides;
                always = always == NONE ? on : always & on;
            }
            return always;
        }

        int leastWrong(Town town) {
            int least = 0;
            int fewest = countWrong(town, least);
            for (int sides = 1; sides < bit(town.houses); sides++) {
                int wrong = countWrong(town, sides);
                if (wrong < fewest) {
                    fewest = wrong;
                    least = sides;
                }
            }
            return least;
        }

        int countWrong(Town town, int sides) {
            int wrong = 0;
            for (int i = 0; i < count; i++) {
                if (!isLookedAt(town, i)) continue;
                int side = isIn(sides, house.get(i)) ? YOUNGEST : ELDEST;
                int heirs = town.heirsAmong(house.get(i), side, lived.get(i));
                if (!isIn(heirs, child.get(i))) wrong++;
            }
            return wrong;
        }

        /** Not so, if it tells of a house or of a child that there is not any more. */
        private boolean isLookedAt(Town town, int i) {
            return town.hasHouse(house.get(i)) && town.hasChild(child.get(i))
                && lived.get(i) < bit(town.children);
        }
    }
}
