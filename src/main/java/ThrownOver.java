/**
 * A ship in a storm: what goes overboard for all is borne by all that was saved.
 * The document ../shared/DOC.md says what each call answers; README.md says how to use it.
 */
public final class ThrownOver {
    public static final int NONE = -1, BAD = -2, NO = -3, FULL = -4;

    private static final int NOT_SO_MANY = -5;
    private static final int BAD_LEAST = -10;
    private static final int FAULT_BASE = -10;
    private static final int BAD_STATUS = -1;

    private static final int FIRST_SHIP_WORTH = 20, FIRST_CARRIES = 60;
    private static final int[] SHIP_LEAST = {0, 0};
    private static final int[] SHIP_MOST = {99, 200};

    private static final int KIND = 0, OWNER = 1, HOLD = 2, HEAVY = 3, WORTH = 4, TOLD = 5, FACTS = 6;
    private static final int ON_BOARD = 6, CAN_GO = 7;
    private static final int[] GOODS_LEAST = {0, 0, 0, 1, 0, 0};
    private static final int[] GOODS_MOST = {5, 3, 2, 40, 60, 60};

    private static final int SEEN_HEAVY = 0, SEEN_WORTH = 1, SEEN_HOLD = 2, SEEN_FACTS = 3;
    private static final int ANY_HOLD = 3;
    private static final int[] SEEN_LEAST = {1, 0, 0};
    private static final int[] SEEN_MOST = {40, 60, 3};

    private static final int HOLDS = 3, KINDS = 6, THE_SHIP = 4, LAST_OWNER = 3;
    private static final int MOST_GOODS = 8, MOST_SEEN = 6, MOST_TEXT = 150, IMAGES = 2, COUNTS = 7;
    private static final int MOST_STORM = 200, MOST_TOLD = 60, LAST_BYTE = 127;
    private static final int AS_IT_LIES = 3;
    private static final int ODDS_STORMS = 10;
    private static final int MOST_SEED = 999999, MOST_VOYAGES = 30;
    private static final int WHICH = -2, HOW_MUCH = -1;

    private final Cargo cargo;
    private final Cargo draft;
    private final Cargo[] images;
    private int imagesKept;
    private final Text text;
    private final Bill bill;
    private final LeastSearch search;
    private final Fraction fraction;
    private final int[] newShip;
    private final int[] newGoods;
    private final int[] newSeen;
    private int badCalls;
    private int noCalls;
    private int fullCalls;

    public ThrownOver() {
        cargo = new Cargo();
        draft = new Cargo();
        images = new Cargo[IMAGES];
        for (int i = 0; i < IMAGES; i++) {
            images[i] = new Cargo();
        }
        text = new Text();
        bill = new Bill();
        search = new LeastSearch();
        fraction = new Fraction();
        newShip = new int[SHIP_MOST.length];
        newGoods = new int[FACTS];
        newSeen = new int[SEEN_FACTS];
    }

    // ---- a ship

    public int ship(int worth, int carries) {
        newShip[0] = worth;
        newShip[1] = carries;
        if (!allWithin(newShip, SHIP_LEAST, SHIP_MOST)) {
            return refuse(BAD);
        }
        int were = cargo.size;
        cargo.restart(worth, carries);
        return were;
    }

    public int goods(int kind, int owner, int hold, int heavy, int worth, int told) {
        newGoods[KIND] = kind;
        newGoods[OWNER] = owner;
        newGoods[HOLD] = hold;
        newGoods[HEAVY] = heavy;
        newGoods[WORTH] = worth;
        newGoods[TOLD] = told;
        if (!allWithin(newGoods, GOODS_LEAST, GOODS_MOST)) {
            return refuse(BAD);
        }
        int number = cargo.load(newGoods);
        return number == NONE ? refuse(FULL) : number;
    }

    public int tells(int k, int t) {
        if (!cargo.has(k) || !within(t, 0, MOST_TOLD)) {
            return refuse(BAD);
        }
        int was = cargo.fact(k, TOLD);
        cargo.retell(k, t);
        return was;
    }

    public int type(int c) {
        if (!within(c, 0, LAST_BYTE)) {
            return refuse(BAD);
        }
        return text.append(c) ? text.length : refuse(FULL);
    }

    public int clear() {
        int had = text.length;
        text.length = 0;
        return had;
    }

    public int read() {
        int answer = text.readInto(draft);
        if (answer >= 0) {
            // What was put overboard in the text is how she begins: none of it may be undone.
            draft.undoable = 0;
            cargo.become(draft);
        }
        return answer;
    }

    // ---- a storm

    public int over(int k) {
        if (!cargo.has(k)) {
            return refuse(BAD);
        }
        if (!cargo.isTop(k, cargo.aboard)) {
            return refuse(NO);
        }
        cargo.heave(k);
        return bill.madeGoodOf(cargo, k);
    }

    public int undo() {
        return cargo.takeBack() ? Integer.bitCount(cargo.aboard) : refuse(NO);
    }

    public int of(int k, int what) {
        if (!cargo.has(k) || !within(what, KIND, CAN_GO)) {
            return refuse(BAD);
        }
        if (what == ON_BOARD) {
            return isIn(cargo.aboard, k) ? 1 : 0;
        }
        if (what == CAN_GO) {
            return cargo.isTop(k, cargo.aboard) ? 1 : 0;
        }
        return cargo.fact(k, what);
    }

    public int lives(int f) {
        if (!isStorm(f)) {
            return refuse(BAD);
        }
        return cargo.outlives(f, cargo.aboard) ? 1 : 0;
    }

    public int now(int what) {
        if (!within(what, 0, 3)) {
            return refuse(BAD);
        }
        if (what >= 2) {
            return cargo.total(cargo.aboard, what == 2 ? HEAVY : WORTH);
        }
        bill.reckon(cargo, NONE);
        return what == 0 ? bill.loss : bill.whole;
    }

    public int share(int owner) {
        if (!within(owner, 0, THE_SHIP)) {
            return refuse(BAD);
        }
        bill.reckon(cargo, owner);
        fraction.become(bill.shareAbove(), bill.below());
        return 1;
    }

    public int net(int owner) {
        if (!within(owner, 0, LAST_OWNER)) {
            return refuse(BAD);
        }
        bill.reckon(cargo, owner);
        fraction.become(bill.netAbove(), bill.below());
        return 1;
    }

    // ---- what to put overboard

    public int least(int f, int i) {
        if (!isStorm(f) || i < WHICH) {
            refuse(BAD);
            return BAD_LEAST;
        }
        int set = search.find(cargo, cargo.aboard, f);
        if (set == NONE || i == WHICH) {
            return set;
        }
        return i == HOW_MUCH ? cargo.total(set, WORTH) : inOrder(set, i);
    }

    public int needful(int f) {
        if (!isStorm(f)) {
            return refuse(BAD);
        }
        int gone = cargo.gone();
        int bits = 0;
        for (int k = 0; k < cargo.size; k++) {
            if (isIn(gone, k) && !cargo.outlives(f, cargo.aboard | 1 << k)) {
                bits |= 1 << k;
            }
        }
        return bits;
    }

    public int stow(int k, int f) {
        if (!cargo.has(k) || !isStorm(f)) {
            return refuse(BAD);
        }
        if (!isIn(cargo.aboard, k)) {
            return refuse(NO);
        }
        for (int place = 0; place <= AS_IT_LIES; place++) {
            int set = place == AS_IT_LIES
                    ? search.find(cargo, cargo.aboard, f)
                    : search.findStowed(cargo, f, k, place);
            // Without any LEAST she is lost with all: no place saves the goods.
            if (set != NONE && !isIn(set, k)) {
                return place;
            }
        }
        return NONE;
    }

    public int tell(int k) {
        if (!cargo.has(k)) {
            return refuse(BAD);
        }
        int best = 0;
        long bestAbove = 0;
        long bestBelow = 1;
        for (int t = 0; t <= MOST_TOLD; t++) {
            bill.reckonMarked(cargo, k, t);
            long above = bill.netAbove();
            long below = bill.below();
            // Both sides below are above 0, so the fractions compare crosswise, exactly.
            if (t == 0 || above * bestBelow < bestAbove * below) {
                best = t;
                bestAbove = above;
                bestBelow = below;
            }
        }
        return best;
    }

    public int marked(int k, int t) {
        if (!cargo.has(k) || !within(t, 0, MOST_TOLD)) {
            return refuse(BAD);
        }
        bill.reckonMarked(cargo, k, t);
        fraction.become(bill.netAbove(), bill.below());
        return 1;
    }

    // ---- what floated home

    public int seen(int h, int w, int d) {
        newSeen[SEEN_HEAVY] = h;
        newSeen[SEEN_WORTH] = w;
        newSeen[SEEN_HOLD] = d;
        if (!allWithin(newSeen, SEEN_LEAST, SEEN_MOST)) {
            return refuse(BAD);
        }
        return cargo.sight(newSeen) ? cargo.sightings : refuse(FULL);
    }

    public int forget() {
        int were = cargo.sightings;
        cargo.sightings = 0;
        return were;
    }

    public int barrel() {
        return cargo.fitting();
    }

    public int whose() {
        int fits = cargo.fitting();
        int owners = 0;
        for (int k = 0; k < cargo.size; k++) {
            if (isIn(fits, k)) {
                owners |= 1 << cargo.fact(k, OWNER);
            }
        }
        return owners;
    }

    public int asks() {
        int fits = cargo.fitting();
        if (fits == 0) {
            return NONE;
        }
        int best = NONE;
        int bestPart = MOST_GOODS + 1;
        for (int question = 0; question < HOLDS + KINDS; question++) {
            int yes = question < HOLDS
                    ? cargo.countWith(fits, HOLD, question)
                    : cargo.countWith(fits, KIND, question - HOLDS);
            int greaterPart = Math.max(yes, Integer.bitCount(fits) - yes);
            if (greaterPart < bestPart) {
                best = question;
                bestPart = greaterPart;
            }
        }
        return best;
    }

    public int odds(int f) {
        if (!within(f, 0, MOST_STORM - ODDS_STORMS + 1)) {
            return refuse(BAD);
        }
        int good = 0;
        for (int i = 0; i < ODDS_STORMS; i++) {
            if (cargo.outlives(f + i, cargo.aboard)) {
                good++;
            }
        }
        fraction.become(good, ODDS_STORMS);
        return 1;
    }

    public int safe() {
        int spare = cargo.carries - cargo.total(cargo.aboard, HEAVY);
        return spare < 0 ? NONE : Math.min(spare, MOST_STORM);
    }

    public int voyages(int seed, int n) {
        if (!within(seed, 0, MOST_SEED) || !within(n, 0, MOST_VOYAGES)) {
            return refuse(BAD);
        }
        long x = seed;
        int left = cargo.aboard;
        for (int i = 0; i < n; i++) {
            x = (x * 1103515245L + 12345L) % 2147483648L;
            int storm = (int) (x / 65536L % 61L);
            int set = search.find(cargo, left, storm);
            if (set == NONE) {
                return 0;
            }
            left &= ~set;
        }
        return cargo.total(left, WORTH);
    }

    // ---- what there is

    public long part(int what) {
        if (!within(what, 0, 1)) {
            return refuse(BAD);
        }
        return what == 0 ? fraction.above : fraction.below;
    }

    public int image(int i) {
        if (!within(i, 0, IMAGES - 1)) {
            return refuse(BAD);
        }
        images[i].become(cargo);
        imagesKept |= 1 << i;
        return 1;
    }

    public int from(int i) {
        if (!within(i, 0, IMAGES - 1)) {
            return refuse(BAD);
        }
        if (!isIn(imagesKept, i)) {
            return refuse(NO);
        }
        cargo.become(images[i]);
        return 1;
    }

    public int status(int what) {
        switch (what) {
            case 0: return badCalls;
            case 1: return noCalls;
            case 2: return fullCalls;
            default:
                refuse(BAD);
                return BAD_STATUS;
        }
    }

    public int count(int what) {
        return within(what, 0, COUNTS - 1) ? howMany(what) : refuse(BAD);
    }

    public long digest() {
        long h = 1117;
        for (int what = 0; what < COUNTS; what++) {
            h = 31 * h + howMany(what);
        }
        for (int k = 0; k < cargo.size; k++) {
            for (int what = 0; what < FACTS; what++) {
                h = 31 * h + cargo.fact(k, what);
            }
            h = 31 * h + (isIn(cargo.aboard, k) ? 1 : 0);
        }
        for (int i = 0; i < cargo.sightings; i++) {
            for (int what = 0; what < SEEN_FACTS; what++) {
                h = 31 * h + cargo.sighted(i, what);
            }
        }
        h = 31 * h + fraction.above;
        return 31 * h + fraction.below;
    }

    // ---- helpers

    private int refuse(int answer) {
        if (answer == BAD) {
            badCalls++;
        } else if (answer == NO) {
            noCalls++;
        } else {
            fullCalls++;
        }
        return answer;
    }

    private int howMany(int what) {
        switch (what) {
            case 0: return cargo.size;
            case 1: return Integer.bitCount(cargo.aboard);
            case 2: return cargo.shipWorth;
            case 3: return cargo.carries;
            case 4: return cargo.sightings;
            case 5: return cargo.undoable;
            default: return text.length;
        }
    }

    private int inOrder(int set, int i) {
        if (i >= Integer.bitCount(set)) {
            return NOT_SO_MANY;
        }
        int left = cargo.aboard;
        int next = cargo.firstTop(set, left);
        for (int gone = 0; gone < i && next != NONE; gone++) {
            left &= ~(1 << next);
            next = cargo.firstTop(set, left);
        }
        return next;
    }

    private static boolean isStorm(int f) {
        return within(f, 0, MOST_STORM);
    }

    private static boolean within(int value, int least, int most) {
        return value >= least && value <= most;
    }

    private static boolean allWithin(int[] values, int[] least, int[] most) {
        if (values.length != least.length || values.length != most.length) {
            return false;
        }
        for (int i = 0; i < values.length; i++) {
            if (!within(values[i], least[i], most[i])) {
                return false;
            }
        }
        return true;
    }

    private static boolean isIn(int set, int k) {
        return (set >> k & 1) == 1;
    }

    /** Kind 0, over all others: each of them says only in what it differs from the one it is under. */
    private static class PlainKind {
        int madeGood(int t) {
            return t;
        }

        int bears(int t) {
            return t;
        }
    }

    private static class DeckKind extends PlainKind {
        int madeGood(int t) {
            return 0;
        }
    }

    private static final class JewelKind extends PlainKind {
        int bears(int t) {
            return super.bears(t) / 2;
        }
    }

    private static class SpoiledKind extends PlainKind {
        int madeGood(int t) {
            return super.madeGood(t) * 3 / 4;
        }
    }

    private static final class MastKind extends DeckKind {
        int madeGood(int t) {
            return super.madeGood(t) + 5;
        }

        int bears(int t) {
            return 0;
        }
    }

    private static final class HabitKind extends SpoiledKind {
        int madeGood(int t) {
            return super.madeGood(t) / 2;
        }

        int bears(int t) {
            return super.bears(t) + 3;
        }
    }

    /** All that an image keeps: the ship, her goods, what is on board, what may be undone, what was seen. */
    private static final class Cargo {
        private int shipWorth;
        private int carries;
        private int size;
        private int aboard;
        private int undoable;
        private int sightings;
        private final int[] facts;
        private final int[] heaved;
        private final int[] sights;

        Cargo() {
            shipWorth = FIRST_SHIP_WORTH;
            carries = FIRST_CARRIES;
            facts = new int[MOST_GOODS * FACTS];
            heaved = new int[MOST_GOODS];
            sights = new int[MOST_SEEN * SEEN_FACTS];
        }

        void restart(int worth, int mayCarry) {
            shipWorth = worth;
            carries = mayCarry;
            size = 0;
            aboard = 0;
            undoable = 0;
            sightings = 0;
        }

        void become(Cargo other) {
            shipWorth = other.shipWorth;
            carries = other.carries;
            size = other.size;
            aboard = other.aboard;
            undoable = other.undoable;
            sightings = other.sightings;
            System.arraycopy(other.facts, 0, facts, 0, facts.length);
            System.arraycopy(other.heaved, 0, heaved, 0, heaved.length);
            System.arraycopy(other.sights, 0, sights, 0, sights.length);
        }

        boolean has(int k) {
            return k >= 0 && k < size;
        }

        int fact(int k, int what) {
            return has(k) && within(what, 0, FACTS - 1) ? facts[k * FACTS + what] : NONE;
        }

        int sighted(int i, int what) {
            return within(i, 0, sightings - 1) && within(what, 0, SEEN_FACTS - 1)
                    ? sights[i * SEEN_FACTS + what] : NONE;
        }

        /** The new goods' number, or NONE if there is no room for more. */
        int load(int[] row) {
            if (size >= MOST_GOODS || row.length < FACTS) {
                return NONE;
            }
            System.arraycopy(row, 0, facts, size * FACTS, FACTS);
            aboard |= 1 << size;
            undoable = 0;
            size++;
            return size - 1;
        }

        void retell(int k, int t) {
            if (has(k)) {
                facts[k * FACTS + TOLD] = t;
            }
        }

        boolean sight(int[] row) {
            if (sightings >= MOST_SEEN || row.length < SEEN_FACTS) {
                return false;
            }
            System.arraycopy(row, 0, sights, sightings * SEEN_FACTS, SEEN_FACTS);
            sightings++;
            return true;
        }

        void heave(int k) {
            if (has(k) && undoable < MOST_GOODS) {
                aboard &= ~(1 << k);
                heaved[undoable] = k;
                undoable++;
            }
        }

        boolean takeBack() {
            if (!within(undoable, 1, MOST_GOODS)) {
                return false;
            }
            undoable--;
            aboard |= 1 << heaved[undoable];
            return true;
        }

        /** Whether k is in the set and nothing of the set lies on it. */
        boolean isTop(int k, int set) {
            if (!has(k) || !isIn(set, k)) {
                return false;
            }
            for (int later = k + 1; later < size; later++) {
                if (isIn(set, later) && fact(later, HOLD) == fact(k, HOLD)) {
                    return false;
                }
            }
            return true;
        }

        /** The least number of those wanted that are on top of what is left on board. */
        int firstTop(int wanted, int left) {
            for (int k = 0; k < size; k++) {
                if (isIn(wanted, k) && isTop(k, left)) {
                    return k;
                }
            }
            return NONE;
        }

        int total(int set, int what) {
            int sum = 0;
            for (int k = 0; k < size; k++) {
                if (isIn(set, k)) {
                    sum += fact(k, what);
                }
            }
            return sum;
        }

        boolean outlives(int storm, int set) {
            return total(set, HEAVY) <= carries - storm;
        }

        int gone() {
            return ((1 << size) - 1) & ~aboard;
        }

        /** The goods gone overboard that every barrel seen may have been. */
        int fitting() {
            int gone = gone();
            int bits = 0;
            for (int k = 0; k < size; k++) {
                if (isIn(gone, k) && fitsAll(k)) {
                    bits |= 1 << k;
                }
            }
            return bits;
        }

        private boolean fitsAll(int k) {
            for (int i = 0; i < sightings; i++) {
                int hold = sighted(i, SEEN_HOLD);
                if (fact(k, HEAVY) < sighted(i, SEEN_HEAVY)
                        || fact(k, WORTH) > sighted(i, SEEN_WORTH)
                        || hold != ANY_HOLD && hold != fact(k, HOLD)) {
                    return false;
                }
            }
            return true;
        }

        int countWith(int set, int what, int value) {
            int number = 0;
            for (int k = 0; k < size; k++) {
                if (isIn(set, k) && fact(k, what) == value) {
                    number++;
                }
            }
            return number;
        }
    }

    /** Lowest terms; below is above 0. */
    private static final class Fraction {
        private long above;
        private long below;

        Fraction() {
            below = 1;
        }

        void become(long newAbove, long newBelow) {
            long divisor = greatestCommon(Math.abs(newAbove), newBelow);
            if (divisor > 0) {
                above = newAbove / divisor;
                below = newBelow / divisor;
            }
        }

        private static long greatestCommon(long x, long y) {
            // Euclid's steps on two longs are fewer than a hundred.
            for (int step = 0; step < 100 && y != 0; step++) {
                long rest = x % y;
                x = y;
                y = rest;
            }
            return x;
        }
    }

    /** The loss, the whole, and one owner's part of both. */
    private static final class Bill {
        private final PlainKind[] kinds;
        private int loss;
        private int whole;
        private int own;
        private int ownMadeGood;

        Bill() {
            kinds = new PlainKind[KINDS];
            kinds[0] = new PlainKind();
            kinds[1] = new DeckKind();
            kinds[2] = new JewelKind();
            kinds[3] = new SpoiledKind();
            kinds[4] = new MastKind();
            kinds[5] = new HabitKind();
        }

        void reckon(Cargo cargo, int owner) {
            begin(cargo, owner);
            for (int k = 0; k < cargo.size; k++) {
                enter(cargo, owner, k, cargo.fact(k, TOLD));
            }
        }

        /** For the owner of goods marked, as if t were told of them. */
        void reckonMarked(Cargo cargo, int marked, int t) {
            int owner = cargo.fact(marked, OWNER);
            begin(cargo, owner);
            for (int k = 0; k < cargo.size; k++) {
                enter(cargo, owner, k, k == marked ? t : cargo.fact(k, TOLD));
            }
        }

        private void begin(Cargo cargo, int owner) {
            loss = 0;
            whole = cargo.shipWorth;
            own = owner == THE_SHIP ? cargo.shipWorth : 0;
            ownMadeGood = 0;
        }

        private void enter(Cargo cargo, int owner, int k, int told) {
            PlainKind kind = kindOf(cargo, k);
            int bears = kind.bears(told);
            int madeGood = isIn(cargo.aboard, k) ? 0 : kind.madeGood(told);
            whole += bears;
            loss += madeGood;
            if (cargo.fact(k, OWNER) == owner) {
                own += bears;
                ownMadeGood += madeGood;
            }
        }

        private PlainKind kindOf(Cargo cargo, int k) {
            int kind = cargo.fact(k, KIND);
            return kinds[within(kind, 0, KINDS - 1) ? kind : 0];
        }

        int madeGoodOf(Cargo cargo, int k) {
            return kindOf(cargo, k).madeGood(cargo.fact(k, TOLD));
        }

        /** If the whole is 0 all shares are 0, and any number above 0 serves below. */
        long below() {
            return whole == 0 ? 1 : whole;
        }

        long shareAbove() {
            return (long) loss * own;
        }

        long netAbove() {
            return shareAbove() - ownMadeGood * below();
        }
    }

    /**
     * LEAST: only goods on top can go, so a set that can go is so many from the top of each hold.
     * The rows tell, for each hold and each such number, what those together are.
     */
    private static final class LeastSearch {
        private static final int ROW = MOST_GOODS + 1;

        private final int[] height;
        private final int[] bits;
        private final int[] heavy;
        private final int[] worth;
        private int toShed;
        private int bestBits;
        private int bestCount;
        private int bestWorth;

        LeastSearch() {
            height = new int[HOLDS];
            bits = new int[HOLDS * ROW];
            heavy = new int[HOLDS * ROW];
            worth = new int[HOLDS * ROW];
        }

        /** The bits of LEAST, or NONE. */
        int find(Cargo cargo, int aboard, int storm) {
            pileUp(cargo, aboard, NONE, NONE);
            return choose(cargo, aboard, storm);
        }

        /** As find, as if goods k lay on top of all in the hold. */
        int findStowed(Cargo cargo, int storm, int k, int hold) {
            pileUp(cargo, cargo.aboard, k, hold);
            return choose(cargo, cargo.aboard, storm);
        }

        private void pileUp(Cargo cargo, int aboard, int lifted, int liftedTo) {
            for (int hold = 0; hold < HOLDS; hold++) {
                height[hold] = 0;
                if (hold == liftedTo) {
                    lay(cargo, lifted, hold);
                }
                for (int k = cargo.size - 1; k >= 0; k--) {
                    if (k != lifted && isIn(aboard, k) && cargo.fact(k, HOLD) == hold) {
                        lay(cargo, k, hold);
                    }
                }
            }
        }

        private void lay(Cargo cargo, int k, int hold) {
            if (!within(hold, 0, HOLDS - 1) || !within(height[hold], 0, MOST_GOODS - 1)) {
                return;
            }
            int at = hold * ROW + height[hold];
            bits[at + 1] = bits[at] | 1 << k;
            heavy[at + 1] = heavy[at] + cargo.fact(k, HEAVY);
            worth[at + 1] = worth[at] + cargo.fact(k, WORTH);
            height[hold]++;
        }

        private int choose(Cargo cargo, int aboard, int storm) {
            toShed = cargo.total(aboard, HEAVY) - (cargo.carries - storm);
            bestBits = NONE;
            for (int a = 0; a <= height[0]; a++) {
                for (int b = 0; b <= height[1]; b++) {
                    for (int c = 0; c <= height[2]; c++) {
                        consider(a, b, c);
                    }
                }
            }
            return bestBits;
        }

        private void consider(int a, int b, int c) {
            int i = a;
            int j = ROW + b;
            int k = 2 * ROW + c;
            if (!within(i, 0, ROW - 1) || !within(j, ROW, 2 * ROW - 1) || !within(k, 2 * ROW, 3 * ROW - 1)) {
                return;
            }
            if (heavy[i] + heavy[j] + heavy[k] < toShed) {
                return;
            }
            keepIfBetter(bits[i] | bits[j] | bits[k], a + b + c, worth[i] + worth[j] + worth[k]);
        }

        private void keepIfBetter(int newBits, int newCount, int newWorth) {
            if (bestBits != NONE && !isBetter(newBits, newCount, newWorth)) {
                return;
            }
            bestBits = newBits;
            bestCount = newCount;
            bestWorth = newWorth;
        }

        private boolean isBetter(int newBits, int newCount, int newWorth) {
            if (newWorth != bestWorth) {
                return newWorth < bestWorth;
            }
            return newCount != bestCount ? newCount < bestCount : newBits < bestBits;
        }
    }

    /** The text, and how a cargo is read from it: fault is NONE until a token can not stand where it is. */
    private static final class Text {
        private static final int END = 0, SHIP = 1, GOODS = 2, OVER = 3, NUMBER = 4, STOP = 5, WRONG = 6;
        private static final int MOST_FIGURES = 3;

        private final byte[] bytes;
        private final int[] numbers;
        private int length;
        private int at;
        private int start;
        private int token;
        private int number;
        private int items;
        private int fault;

        Text() {
            bytes = new byte[MOST_TEXT];
            numbers = new int[FACTS];
        }

        boolean append(int c) {
            if (!within(length, 0, MOST_TEXT - 1)) {
                return false;
            }
            bytes[length] = (byte) c;
            length++;
            return true;
        }

        /** How many items were read, or FAULT_BASE less the fault's place; the cargo is good only without a fault. */
        int readInto(Cargo cargo) {
            at = 0;
            items = 0;
            fault = NONE;
            step();
            for (int i = 0; i <= MOST_TEXT && fault == NONE && (items == 0 || token != END); i++) {
                readItem(cargo);
                takeStop();
            }
            return fault == NONE ? items : FAULT_BASE - fault;
        }

        private void readItem(Cargo cargo) {
            if (token == SHIP && items == 0) {
                if (takeNumbers(SHIP_LEAST, SHIP_MOST)) {
                    cargo.restart(numbers[0], numbers[1]);
                }
            } else if (token == GOODS && items > 0 && cargo.size < MOST_GOODS) {
                if (takeNumbers(GOODS_LEAST, GOODS_MOST)) {
                    cargo.load(numbers);
                }
            } else if (token == OVER && items > 0) {
                takeOver(cargo);
            } else {
                fault = start;
            }
        }

        private void takeStop() {
            if (fault != NONE) {
                return;
            }
            if (token == STOP) {
                items++;
                step();
            } else {
                fault = start;
            }
        }

        private boolean takeNumbers(int[] least, int[] most) {
            step();
            for (int i = 0; i < least.length && i < most.length && i < numbers.length; i++) {
                if (token != NUMBER || !within(number, least[i], most[i])) {
                    fault = start;
                    return false;
                }
                numbers[i] = number;
                step();
            }
            return true;
        }

        private void takeOver(Cargo cargo) {
            step();
            if (token == NUMBER && cargo.isTop(number, cargo.aboard)) {
                cargo.heave(number);
                step();
            } else {
                fault = start;
            }
        }

        private void step() {
            while (at < length && byteAt(at) == ' ') {
                at++;
            }
            start = at;
            if (at >= length) {
                token = END;
            } else if (isLetter(byteAt(at))) {
                takeWord();
            } else if (isFigure(byteAt(at))) {
                takeFigures();
            } else {
                token = byteAt(at) == ';' ? STOP : WRONG;
                at++;
            }
        }

        private void takeWord() {
            while (at < length && isLetter(byteAt(at))) {
                at++;
            }
            if (spells("ship")) {
                token = SHIP;
            } else if (spells("goods")) {
                token = GOODS;
            } else {
                token = spells("over") ? OVER : WRONG;
            }
        }

        private boolean spells(String word) {
            if (word.length() != at - start) {
                return false;
            }
            for (int i = 0; i < word.length(); i++) {
                if (word.charAt(i) != byteAt(start + i)) {
                    return false;
                }
            }
            return true;
        }

        private void takeFigures() {
            number = 0;
            while (at < length && isFigure(byteAt(at))) {
                if (at - start < MOST_FIGURES) {
                    number = number * 10 + byteAt(at) - '0';
                }
                at++;
            }
            token = at - start <= MOST_FIGURES ? NUMBER : WRONG;
        }

        private int byteAt(int place) {
            return place >= 0 && place < MOST_TEXT ? bytes[place] : NONE;
        }

        private static boolean isLetter(int c) {
            return c >= 'a' && c <= 'z';
        }

        private static boolean isFigure(int c) {
            return c >= '0' && c <= '9';
        }
    }
}
