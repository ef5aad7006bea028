import java.util.Arrays;

/**
 * Animals on cranks around a ring, of which no two beside one another may be high at once.
 * Words in capitals in the comments are those of the document (DOC.md).
 */
public final class RoundAndUp {
    public static final int BAD = -1, FULL = -2, NONE = -3, STATE = -4;

    private static final int NOTHING_THERE = -11, OUTSIDE = -12, OTHER_SORT = -13, BELOW_ZERO = -14, PARTED_BY_ZERO = -15;
    private static final int NOT_SUCH = -9;
    private static final int FAULT_BASE = -100;

    private static final int MOST_ANIMALS = 9, MOST_CHILDREN = 8, MOST_PHOTOS = 6, MOST_RULES = 8, MOST_ROWS = 20;
    private static final int LEAST_CRANK = 2, MOST_CRANK = 12, MOST_PHASE = 11, MOST_PRICE = 99;
    private static final int FIRST_LEVEL = 3, MOST_LEVEL = 7, MOST_TURN = 9999, MOST_TURNS_GONE = 500;
    private static final int MOST_COINS = 999, MOST_HEIGHT = 9, MOST_TURN_READ = 99999;
    private static final int TURNS_SEEN = 200, TURNS_TUNED = 100, TURNS_PLAYED = 1000, MOST_ROLL = 60;
    private static final int TAPE_SIZE = 200, MOST_BYTES_FED = 8;
    private static final int SHEETS = 4, SHEET_SIZE = 40, SHELVES = 4, TRACE_SIZE = 30;

    private static final int ANIMAL = 0, HORSE = 1, SWAN = 2, WHITE = 3, LAME = 4, OSTRICH = 5;
    private static final int AS_IT_GOES = 0, SLOWLY = 1, NOT_AT_ALL = 2;
    private static final int BYTES = 0, SHORTS = 1, INTS = 2, LONGS = 3, BOOLEANS = 4, MISSING = -1;
    private static final int AS_ROW = 10;
    private static final int LIFTS = 0, TURNS = 1, SHARES = 2, TELLS = 3;

    private final Ring ring = new Ring();
    private final Children children = new Children();
    private final Photos photos = new Photos();
    private final Ring keptRing = new Ring();
    private final Children keptChildren = new Children();
    private final Photos keptPhotos = new Photos();
    private boolean isKept;
    private final RuleReader reader = new RuleReader();
    private final Tuner tuner = new Tuner();
    private final Seating seating = new Seating();
    private final Rows rows = new Rows();
    private final Sheets sheets = new Sheets();
    private final Shelves shelves = new Shelves();
    private final Acts acts = new Acts();

    public RoundAndUp() {
    }

    // ---- the ring

    public int animal(int kind, int crank, int phase, int price) {
        if (!isKind(kind) || !isCrank(crank) || !isPhase(phase) || !isPrice(price)) {
            return BAD;
        }
        return ring.count == MOST_ANIMALS ? FULL : ring.add(kind, crank, phase, price);
    }

    public int animalOf(int i, int what) {
        if (!ring.has(i)) {
            return BAD;
        }
        ring.askRules();
        switch (what) {
            case 0: return ring.kind[i];
            case 1: return ring.crank[i];
            case 2: return ring.phase[i];
            case 3: return ring.price[i];
            case 4: return ring.priceNow[i];
            case 5: return ring.paceNow[i];
            case 6: return ring.heightNow(i, ring.turn);
            default: return BAD;
        }
    }

    public int change(int i, int what, int v) {
        if (!ring.has(i)) {
            return BAD;
        }
        switch (what) {
            case 1: return isCrank(v) ? replaced(ring.crank, i, v) : BAD;
            case 2: return isPhase(v) ? replaced(ring.phase, i, v) : BAD;
            case 3: return isPrice(v) ? replaced(ring.price, i, v) : BAD;
            default: return BAD;
        }
    }

    public int paint(int i, int kind) {
        return ring.has(i) && isKind(kind) ? replaced(ring.kind, i, kind) : BAD;
    }

    public int level(int v) {
        if (!isWithin(v, 0, MOST_LEVEL)) {
            return BAD;
        }
        int was = ring.level;
        ring.level = v;
        return was;
    }

    public int turn(int n) {
        if (!isWithin(n, 1, MOST_TURNS_GONE)) {
            return BAD;
        }
        if (ring.turn + n > MOST_TURN) {
            return STATE;
        }
        ring.turn += n;
        return ring.turn;
    }

    public int slip(int i, int n) {
        if (!ring.has(i) || !isWithin(n, -MOST_PHASE, MOST_PHASE)) {
            return BAD;
        }
        return replaced(ring.phase, i, ring.phaseSlipped(i, n));
    }

    // ---- the rules

    public int feed(long eight, int n) {
        if (!isWithin(n, 1, MOST_BYTES_FED)) {
            return BAD;
        }
        return reader.length + n > TAPE_SIZE ? FULL : reader.take(eight, n);
    }

    public int rules() {
        boolean isRight = reader.read();
        reader.length = 0;
        if (!isRight) {
            return FAULT_BASE - reader.fault();
        }
        ring.rules.copyFrom(reader.book);
        return ring.rules.count;
    }

    // ---- turns

    public int height(int i, int t) {
        if (!ring.has(i) || !isTurn(t)) {
            return BAD;
        }
        ring.askRules();
        return ring.heightNow(i, t);
    }

    public int high(int t) {
        if (!isTurn(t)) {
            return BAD;
        }
        ring.askRules();
        return ring.setOfHigh(t);
    }

    public int clash(int t) {
        if (!isTurn(t)) {
            return BAD;
        }
        ring.askRules();
        return ring.firstOfClash(t);
    }

    public int nextClash(int t) {
        if (!isTurn(t)) {
            return BAD;
        }
        ring.askRules();
        return ring.turnOfClash(t, TURNS_SEEN);
    }

    public int quiet(int t, int n) {
        if (!isTurn(t) || !isSpan(n)) {
            return BAD;
        }
        ring.askRules();
        int longest = 0;
        int run = 0;
        for (int k = 0; k < n; k++) {
            run = ring.firstOfClash(t + k) == NONE ? run + 1 : 0;
            longest = Math.max(longest, run);
        }
        return longest;
    }

    public int rings(int i, int t, int n) {
        if (!ring.has(i) || !isTurn(t) || !isSpan(n)) {
            return BAD;
        }
        ring.askRules();
        return ring.ringsCaught(i, t, n);
    }

    public int firstRing(int i, int t) {
        if (!ring.has(i) || !isTurn(t)) {
            return BAD;
        }
        ring.askRules();
        for (int k = 0; k < TURNS_SEEN; k++) {
            if (ring.catchesRing(i, t + k)) {
                return t + k;
            }
        }
        return NONE;
    }

    public int mostRings(int t, int n) {
        if (!isTurn(t) || !isSpan(n)) {
            return BAD;
        }
        ring.askRules();
        int best = NONE;
        int most = -1;
        for (int i = 0; i < ring.count; i++) {
            int caught = ring.ringsCaught(i, t, n);
            if (caught > most) {
                most = caught;
                best = i;
            }
        }
        return best;
    }

    public int levelFor(int t, int n) {
        if (!isTurn(t) || !isSpan(n)) {
            return BAD;
        }
        int was = ring.level;
        int least = NONE;
        for (int v = 0; v <= MOST_LEVEL && least == NONE; v++) {
            ring.level = v;
            ring.askRules();
            if (ring.turnOfClash(t, n) == NONE) {
                least = v;
            }
        }
        ring.level = was;
        return least;
    }

    // ---- cranks

    public int phases(int i) {
        if (!ring.has(i)) {
            return BAD;
        }
        ring.askRules();
        int set = 0;
        for (int phase = 0; phase < ring.crank[i]; phase++) {
            if (!ring.meetsOneBeside(i, phase)) {
                set |= 1 << phase;
            }
        }
        return set;
    }

    public int tune(int i) {
        if (!ring.has(i)) {
            return BAD;
        }
        ring.askRules();
        return tuner.findRow(ring) ? tuner.row[i] : NONE;
    }

    public int tuneAll() {
        ring.askRules();
        if (!tuner.findRow(ring)) {
            return NONE;
        }
        int others = 0;
        for (int i = 0; i < ring.count; i++) {
            if (replaced(ring.phase, i, tuner.row[i]) != tuner.row[i]) {
                others++;
            }
        }
        return others;
    }

    public int organ(int i, int roll, int beat) {
        if (!ring.has(i) || !isWithin(roll, 2, MOST_ROLL) || !isWithin(beat, 0, roll - 1)) {
            return BAD;
        }
        ring.askRules();
        for (int t = beat; t < TURNS_PLAYED; t += roll) {
            if (ring.placeNow(i, t) == 0) {
                return t;
            }
        }
        return NONE;
    }

    public int together(int set, int t) {
        if (!ring.hasAll(set) || !isTurn(t)) {
            return BAD;
        }
        ring.askRules();
        for (int k = 0; k < TURNS_PLAYED; k++) {
            if (ring.areDown(set, t + k)) {
                return t + k;
            }
        }
        return NONE;
    }

    public int slipped(int t, int set) {
        if (!isTurn(t) || !ring.hasAll(set)) {
            return BAD;
        }
        ring.askRules();
        int high = ring.setOfHigh(t);
        for (int i = 0; i < ring.count; i++) {
            boolean isHigh = ring.isHighWith(i, ring.phaseSlipped(i, 1), t);
            int after = isHigh ? high | 1 << i : high & ~(1 << i);
            if (after == set) {
                return i;
            }
        }
        return NONE;
    }

    // ---- children

    public int child(int wish, int coins) {
        if (!ring.hasAll(wish) || !isCoins(coins)) {
            return BAD;
        }
        return children.count == MOST_CHILDREN ? FULL : children.add(wish, coins);
    }

    public int childOf(int c, int what) {
        if (!children.has(c)) {
            return BAD;
        }
        switch (what) {
            case 0: return children.wish[c];
            case 1: return children.coins[c];
            case 2: return children.ridden[c];
            default: return BAD;
        }
    }

    public int coins(int c, int v) {
        return children.has(c) && isCoins(v) ? replaced(children.coins, c, v) : BAD;
    }

    public int seats() {
        ring.askRules();
        return seating.fill(ring, children);
    }

    public int seat(int c) {
        if (!children.has(c)) {
            return BAD;
        }
        ring.askRules();
        seating.fill(ring, children);
        return seating.animal[c];
    }

    public int ride() {
        ring.askRules();
        seating.fill(ring, children);
        int riders = 0;
        for (int c = 0; c < children.count; c++) {
            int i = seating.animal[c];
            if (ring.has(i)) {
                children.coins[c] -= ring.priceNow[i];
                children.ridden[c] = i;
                riders++;
            }
        }
        return riders;
    }

    public int away() {
        int were = children.count;
        children.count = 0;
        return were;
    }

    // ---- photographs

    public int photo(int i, int t, int height) {
        if (!ring.has(i) || !isTurn(t) || !isWithin(height, 0, MOST_HEIGHT)) {
            return BAD;
        }
        return photos.count == MOST_PHOTOS ? FULL : photos.add(i, t, height);
    }

    public int burn() {
        int were = photos.count;
        photos.count = 0;
        return were;
    }

    public int fits(int i) {
        if (!ring.has(i)) {
            return BAD;
        }
        int set = 0;
        for (int phase = 0; phase < ring.crank[i]; phase++) {
            if (photos.wrongOnes(ring, i, phase) == 0) {
                set |= 1 << phase;
            }
        }
        return set;
    }

    public int liar(int i) {
        if (!ring.has(i)) {
            return BAD;
        }
        int least = NONE;
        for (int phase = 0; phase < ring.crank[i]; phase++) {
            int wrong = photos.wrongOnes(ring, i, phase);
            if (wrong == 0) {
                return NONE;
            }
            if (wrong == 1 && (least == NONE || photos.firstWrong < least)) {
                least = photos.firstWrong;
            }
        }
        return least;
    }

    // ---- rows

    public int prove(int i, int t, int n) {
        if (!ring.has(i) || !isTurn(t) || !isWithin(n, 1, MOST_ROWS)) {
            return BAD;
        }
        ring.askRules();
        return rows.fill(ring, i, t, n);
    }

    public int row(int k, int what) {
        return rows.has(k, what) ? rows.cell[rows.cellAt(k, what)] : NOT_SUCH;
    }

    public int alterRow(int k, int what, int v) {
        return rows.has(k, what) ? replaced(rows.cell, rows.cellAt(k, what), v) : NOT_SUCH;
    }

    public int judge(int i) {
        if (!ring.has(i)) {
            return BAD;
        }
        ring.askRules();
        for (int k = 0; k < rows.count; k++) {
            if (!rows.isRight(ring, i, k)) {
                return k + 1;
            }
        }
        return 0;
    }

    // ---- the host

    public int sheet(int sheet, int sort, int n) {
        if (!isSheet(sheet) || sort != MISSING && (!isSort(sort) || n > SHEET_SIZE)) {
            return BAD;
        }
        if (sort != MISSING && n < 0) {
            return BELOW_ZERO;
        }
        sheets.renew(sheet, sort, sort == MISSING ? 0 : n);
        return 1;
    }

    public int write(int sheet, int i, int v) {
        if (!isSheet(sheet)) {
            return BAD;
        }
        if (sheets.sort[sheet] == MISSING) {
            return NOTHING_THERE;
        }
        if (!sheets.hasItem(sheet, i)) {
            return OUTSIDE;
        }
        sheets.item[sheet][i] = Sheets.narrowed(sheets.sort[sheet], v);
        return 1;
    }

    public int item(int sheet, int sort, int i) {
        if (!isSheet(sheet) || !isSort(sort)) {
            return BAD;
        }
        if (sheets.sort[sheet] == MISSING) {
            return NOTHING_THERE;
        }
        if (sheets.sort[sheet] != sort) {
            return OTHER_SORT;
        }
        return sheets.hasItem(sheet, i) ? sheets.item[sheet][i] : OUTSIDE;
    }

    public int sets(int sheet, int k, int n) {
        if (!isSheet(sheet) || !isWithin(n, 0, MOST_ANIMALS)) {
            return BAD;
        }
        // It is the SHEET that is asked, not its items alone: these two refuse 0 items, too.
        if (sheets.sort[sheet] == MISSING) {
            return NOTHING_THERE;
        }
        if (sheets.sort[sheet] != BYTES) {
            return OTHER_SORT;
        }
        int came = 0;
        for (int j = 0; j < n; j++) {
            if (!sheets.hasItem(sheet, k + j)) {
                return OUTSIDE;
            }
            if (change(j, 2, sheets.item[sheet][k + j]) != BAD) {
                came++;
            }
        }
        return came;
    }

    public int shelf(int shelf, int what, int n) {
        if (!isShelf(shelf)) {
            return BAD;
        }
        switch (what) {
            case 0:
                if (!ring.has(n)) {
                    return BAD;
                }
                shelves.holdAnimal(shelf, n);
                return 1;
            case 1:
                if (!isSheet(n)) {
                    return BAD;
                }
                shelves.holdRow(shelf, sheets.sort[n], sheets.size[n]);
                return 1;
            case 2:
                shelves.clear(shelf);
                return 1;
            default:
                return BAD;
        }
    }

    public int taken(int shelf, int as) {
        if (!isShelf(shelf) || !isWithin(as, ANIMAL, OSTRICH) && !isSort(as - AS_ROW)) {
            return BAD;
        }
        if (shelves.holdsRow(shelf)) {
            return shelves.sort[shelf] == as - AS_ROW ? shelves.size[shelf] : OTHER_SORT;
        }
        int i = shelves.animal[shelf];
        if (!ring.has(i)) {
            return NOTHING_THERE;
        }
        return isUnder(ring.kind[i], as) ? i : OTHER_SORT;
    }

    public int act(int shelf, int act, int x) {
        acts.forget();
        if (!isShelf(shelf) || !isWithin(act, LIFTS, TELLS) || !ring.has(shelves.animal[shelf])) {
            return 0;
        }
        int i = shelves.animal[shelf];
        return acts.perform(ring.kind[i], i, ring.crank[i], act, x);
    }

    public int trace(int i) {
        return isWithin(i, 0, acts.count - 1) ? acts.body[i] : NONE;
    }

    public int many(int what) {
        switch (what) {
            case 0: return ring.count;
            case 1: return ring.rules.count;
            case 2: return children.count;
            case 3: return photos.count;
            case 4: return rows.count;
            case 5: return reader.length;
            case 6: return acts.count;
            default: return BAD;
        }
    }

    // ---- kept

    public int keep() {
        keptRing.copyFrom(ring);
        keptChildren.copyFrom(children);
        keptPhotos.copyFrom(photos);
        isKept = true;
        return 1;
    }

    public int again() {
        if (!isKept) {
            return NONE;
        }
        ring.copyFrom(keptRing);
        children.copyFrom(keptChildren);
        photos.copyFrom(keptPhotos);
        return ring.count;
    }

    // ---- what numbers may be

    private static boolean isWithin(int v, int least, int most) {
        return v >= least && v <= most;
    }

    private static boolean isKind(int v) {
        return isWithin(v, HORSE, OSTRICH);
    }

    private static boolean isCrank(int v) {
        return isWithin(v, LEAST_CRANK, MOST_CRANK);
    }

    private static boolean isPhase(int v) {
        return isWithin(v, 0, MOST_PHASE);
    }

    private static boolean isPrice(int v) {
        return isWithin(v, 0, MOST_PRICE);
    }

    private static boolean isCoins(int v) {
        return isWithin(v, 0, MOST_COINS);
    }

    private static boolean isTurn(int v) {
        return isWithin(v, 0, MOST_TURN);
    }

    private static boolean isSpan(int n) {
        return isWithin(n, 1, TURNS_SEEN);
    }

    private static boolean isSheet(int v) {
        return isWithin(v, 0, SHEETS - 1);
    }

    private static boolean isSort(int v) {
        return isWithin(v, BYTES, BOOLEANS);
    }

    private static boolean isShelf(int v) {
        return isWithin(v, 0, SHELVES - 1);
    }

    /** Whether a thing of a KIND is one of the KIND as, or of one under that. */
    private static boolean isUnder(int kind, int as) {
        return as == ANIMAL || kind == as || as == HORSE && kind == WHITE || as == SWAN && kind == OSTRICH;
    }

    /** The rest of a division; 0 where there is no divisor, so that nothing can be parted by 0. */
    private static int remainder(int v, int by) {
        return by == 0 ? 0 : v % by;
    }

    /** Puts v in a place that the caller has looked at; answers what stood there. */
    private static int replaced(int[] row, int i, int v) {
        int was = row[i];
        row[i] = v;
        return was;
    }

    /** The ANIMALS, and what moves them: LEVEL, TURN and THE RULES. */
    private static final class Ring {
        final int[] kind = new int[MOST_ANIMALS];
        final int[] crank = new int[MOST_ANIMALS];
        final int[] phase = new int[MOST_ANIMALS];
        final int[] price = new int[MOST_ANIMALS];
        int count;
        int level = FIRST_LEVEL;
        int turn;
        final RuleBook rules = new RuleBook();
        // A RULE doesn't hang on the TURN: askRules() finds it once for a call that looks at many.
        final int[] paceNow = new int[MOST_ANIMALS];
        final int[] priceNow = new int[MOST_ANIMALS];
        private final int[] fact = new int[RuleBook.FACTS];

        boolean has(int i) {
            return i >= 0 && i < count;
        }

        boolean hasAll(int set) {
            return set >= 0 && set < 1 << count;
        }

        int add(int itsKind, int itsCrank, int itsPhase, int itsPrice) {
            kind[count] = itsKind;
            crank[count] = itsCrank;
            phase[count] = itsPhase;
            price[count] = itsPrice;
            count++;
            return count - 1;
        }

        void copyFrom(Ring other) {
            System.arraycopy(other.kind, 0, kind, 0, MOST_ANIMALS);
            System.arraycopy(other.crank, 0, crank, 0, MOST_ANIMALS);
            System.arraycopy(other.phase, 0, phase, 0, MOST_ANIMALS);
            System.arraycopy(other.price, 0, price, 0, MOST_ANIMALS);
            count = other.count;
            level = other.level;
            turn = other.turn;
            rules.copyFrom(other.rules);
        }

        /** Must be called ahead of all that speaks of now, and again when LEVEL or a PHASE is another. */
        void askRules() {
            for (int i = 0; i < count; i++) {
                int rule = ruleWith(i, phase[i]);
                int now = rules.priceBy(rule, price[i]);
                paceNow[i] = rules.paceBy(rule);
                priceNow[i] = isUnder(kind[i], SWAN) ? 2 * now : now;
            }
        }

        private int ruleWith(int i, int itsPhase) {
            fact[RuleBook.LEVEL] = level;
            fact[RuleBook.CRANK] = crank[i];
            fact[RuleBook.PHASE] = itsPhase;
            fact[RuleBook.PRICE] = price[i];
            fact[RuleBook.NUMBER] = i;
            return rules.firstFor(kind[i], fact);
        }

        int paceWith(int i, int itsPhase) {
            return rules.paceBy(ruleWith(i, itsPhase));
        }

        /** Those whose PRICE NOW is some COINS or less. */
        int thoseFor(int coins) {
            int set = 0;
            for (int i = 0; i < count; i++) {
                if (priceNow[i] <= coins) {
                    set |= 1 << i;
                }
            }
            return set;
        }

        int phaseSlipped(int i, int n) {
            return remainder(phase[i] + n + MOST_CRANK * crank[i], crank[i]);
        }

        int placeWith(int i, int itsPhase, int pace, int t) {
            switch (pace) {
                case AS_IT_GOES: return remainder(itsPhase + teethAsItGoes(kind[i], t), crank[i]);
                case SLOWLY: return remainder(itsPhase + teethAsItGoes(kind[i], t) / 2, crank[i]);
                default: return remainder(itsPhase, crank[i]);
            }
        }

        int placeNow(int i, int t) {
            return placeWith(i, phase[i], paceNow[i], t);
        }

        int heightAt(int i, int place) {
            int lesser = Math.min(place, crank[i] - place);
            return kind[i] == WHITE ? lesser + 1 : lesser;
        }

        int heightNow(int i, int t) {
            return heightAt(i, placeNow(i, t));
        }

        boolean isHighNow(int i, int t) {
            return heightAt(i, placeNow(i, t)) >= level;
        }

        /** Whether it would be HIGH with another PHASE, by which THE RULES ask, too. */
        boolean isHighWith(int i, int itsPhase, int t) {
            return heightAt(i, placeWith(i, itsPhase, paceWith(i, itsPhase), t)) >= level;
        }

        int setOfHigh(int t) {
            int set = 0;
            for (int i = 0; i < count; i++) {
                if (isHighNow(i, t)) {
                    set |= 1 << i;
                }
            }
            return set;
        }

        /** How many pairs BESIDE one another there are: pair i is that of ANIMAL i and the next one. */
        int pairs() {
            return count >= 3 ? count : Math.max(0, count - 1);
        }

        int nextOf(int i) {
            return i + 1 >= count ? 0 : i + 1;
        }

        int firstOfClash(int t) {
            int set = setOfHigh(t);
            for (int i = 0; i < pairs(); i++) {
                if ((set >> i & 1) == 1 && (set >> nextOf(i) & 1) == 1) {
                    return i;
                }
            }
            return NONE;
        }

        int turnOfClash(int t, int n) {
            for (int k = 0; k < n; k++) {
                if (firstOfClash(t + k) != NONE) {
                    return t + k;
                }
            }
            return NONE;
        }

        boolean catchesRing(int i, int t) {
            return remainder(i + t, count) == 0 && isHighNow(i, t);
        }

        int ringsCaught(int i, int t, int n) {
            int caught = 0;
            for (int k = 0; k < n; k++) {
                if (catchesRing(i, t + k)) {
                    caught++;
                }
            }
            return caught;
        }

        boolean areDown(int set, int t) {
            for (int i = 0; i < count; i++) {
                if ((set >> i & 1) == 1 && placeNow(i, t) != 0) {
                    return false;
                }
            }
            return true;
        }

        /** Whether with a PHASE it is ever HIGH together with one BESIDE it, all others as they are. */
        boolean meetsOneBeside(int i, int itsPhase) {
            int pace = paceWith(i, itsPhase);
            for (int t = 0; t < TURNS_TUNED; t++) {
                if (heightAt(i, placeWith(i, itsPhase, pace, t)) >= level && isOneBesideHigh(i, t)) {
                    return true;
                }
            }
            return false;
        }

        private boolean isOneBesideHigh(int i, int t) {
            if (count < 2) {
                return false;
            }
            int ahead = i == 0 ? count - 1 : i - 1;
            return isHighNow(ahead, t) || isHighNow(nextOf(i), t);
        }

        private static int teethAsItGoes(int kind, int t) {
            switch (kind) {
                case SWAN: return t / 2;
                case OSTRICH: return t / 2 + t % 2;
                case LAME: return t + t / 7;
                default: return t;
            }
        }
    }

    /**
     * THE RULES as they are asked: the condition of RULE r is code[start[r]] to code[start[r + 1] - 1], operands ahead
     * of operators. A comparison is one int: its SIGN above two VALUES of 14 bits; a VALUE is a NUMBER or FACT_BASE + FACT.
     */
    private static final class RuleBook {
        static final int LEVEL = 0, CRANK = 1, PHASE = 2, PRICE = 3, NUMBER = 4, FACTS = 5;
        static final int FREE = 0, DEAR = 1, SLOW = 2, STOP = 3;
        static final int FACT_BASE = 10000, VALUE_BITS = 14, VALUE_MASK = (1 << VALUE_BITS) - 1;
        static final int LESS = 1, EQUAL = 2, MORE = 3;
        static final int NOT = 0, AND = 1, OR = 2;
        // Of two operators one is a word, and a comparison takes three bytes: half of THE TAPE is never reached.
        static final int CODE_SIZE = TAPE_SIZE / 2;

        final int[] kind = new int[MOST_RULES];
        final int[] deed = new int[MOST_RULES];
        final int[] more = new int[MOST_RULES];
        final int[] start = new int[MOST_RULES + 1];
        final int[] code = new int[CODE_SIZE];
        int count;

        void copyFrom(RuleBook other) {
            System.arraycopy(other.kind, 0, kind, 0, MOST_RULES);
            System.arraycopy(other.deed, 0, deed, 0, MOST_RULES);
            System.arraycopy(other.more, 0, more, 0, MOST_RULES);
            System.arraycopy(other.start, 0, start, 0, MOST_RULES + 1);
            System.arraycopy(other.code, 0, code, 0, CODE_SIZE);
            count = other.count;
        }

        void clear() {
            count = 0;
        }

        /** Opens the next RULE's condition: its code is empty so far. */
        void begin() {
            start[count + 1] = start[count];
        }

        void emit(int operation) {
            int at = start[count + 1];
            if (at < CODE_SIZE) {
                code[at] = operation;
                start[count + 1] = at + 1;
            }
        }

        void finish(int itsKind, int itsDeed, int itsMore) {
            kind[count] = itsKind;
            deed[count] = itsDeed;
            more[count] = itsMore;
            count++;
        }

        static int comparison(int left, int sign, int right) {
            return sign << 2 * VALUE_BITS | left << VALUE_BITS | right;
        }

        int firstFor(int itsKind, int[] fact) {
            for (int r = 0; r < count; r++) {
                if (isUnder(itsKind, kind[r]) && holds(r, fact)) {
                    return r;
                }
            }
            return NONE;
        }

        /** Answers stand as bits of one int, the latest lowest; a RULE without a condition finds the first, 1. */
        private boolean holds(int r, int[] fact) {
            int answers = 1;
            for (int k = start[r]; k < start[r + 1]; k++) {
                int before = answers >> 1;
                switch (code[k]) {
                    case NOT: answers ^= 1; break;
                    case AND: answers = (answers & 1) == 1 ? before : before & ~1; break;
                    case OR: answers = before | answers & 1; break;
                    default: answers = answers << 1 | (compares(code[k], fact) ? 1 : 0);
                }
            }
            return (answers & 1) == 1;
        }

        private static boolean compares(int comparison, int[] fact) {
            int left = valueOf(comparison >> VALUE_BITS & VALUE_MASK, fact);
            int right = valueOf(comparison & VALUE_MASK, fact);
            switch (comparison >> 2 * VALUE_BITS) {
                case LESS: return left < right;
                case EQUAL: return left == right;
                default: return left > right;
            }
        }

        private static int valueOf(int value, int[] fact) {
            return value >= FACT_BASE && value < FACT_BASE + FACTS ? fact[value - FACT_BASE] : value;
        }

        private boolean does(int rule, int itsDeed) {
            return rule >= 0 && rule < count && deed[rule] == itsDeed;
        }

        int paceBy(int rule) {
            if (does(rule, SLOW)) {
                return SLOWLY;
            }
            return does(rule, STOP) ? NOT_AT_ALL : AS_IT_GOES;
        }

        int priceBy(int rule, int price) {
            if (does(rule, FREE)) {
                return 0;
            }
            return does(rule, DEAR) ? price + more[rule] : price;
        }
    }

    /** THE TAPE, and the reader of its TEXT: bytes become tokens, tokens THE RULES of a book. */
    private static final class RuleReader {
        // A NAME's token is its place in this row.
        private static final String NAMES = "animal horse swan white lame ostrich if free dear slow stop or and not level crank phase price number";
        private static final int IF = 6, FREE = 7, STOP = 10, OR = 11, AND = 12, NOT = 13, LEVEL = 14, NUMBER = 18;
        private static final int WRONG = 50, END = 51, BYTE_BASE = 100, NUMBER_BASE = 1000;
        private static final int MOST_DIGITS = 4, MOST_DEAR = 99, MOST_OPEN = 3;

        final RuleBook book = new RuleBook();
        int length;
        private final int[] tape = new int[TAPE_SIZE];
        private final int[] token = new int[TAPE_SIZE + 1];
        private final int[] place = new int[TAPE_SIZE + 1];
        private int last;
        private int at;

        int take(long eight, int n) {
            for (int k = 0; k < n; k++) {
                tape[length] = (int) (eight >> 8 * k) & 255;
                length++;
            }
            return length;
        }

        /** Reads all of THE TAPE; if it isn't a TEXT, the token at which this showed stays the one looked at. */
        boolean read() {
            split();
            at = 0;
            book.clear();
            for (int r = 0; r < MOST_RULES && at < last; r++) {
                if (!readRule()) {
                    return false;
                }
            }
            return at == last;
        }

        int fault() {
            return place[at];
        }

        private void split() {
            last = 0;
            for (int k = 0; k < length; k++) {
                if (beginsToken(k)) {
                    token[last] = tokenOf(k, endOfToken(k));
                    place[last] = k;
                    last++;
                }
            }
            token[last] = END;
            place[last] = length;
        }

        private boolean beginsToken(int k) {
            boolean isInName = k > 0 && isLetter(tape[k - 1]) && isLetter(tape[k]);
            boolean isInNumber = k > 0 && isDigit(tape[k - 1]) && isDigit(tape[k]);
            return tape[k] != ' ' && !isInName && !isInNumber;
        }

        private static boolean isLetter(int b) {
            return b >= 'a' && b <= 'z';
        }

        private static boolean isDigit(int b) {
            return b >= '0' && b <= '9';
        }

        private int endOfToken(int from) {
            int end = from + 1;
            while (end < length && tape[end] != ' ' && !beginsToken(end)) {
                end++;
            }
            return end;
        }

        private int tokenOf(int from, int end) {
            if (isLetter(tape[from])) {
                return nameOf(from, end);
            }
            return isDigit(tape[from]) ? numberOf(from, end) : BYTE_BASE + tape[from];
        }

        private int numberOf(int from, int end) {
            if (end - from > MOST_DIGITS) {
                return WRONG;
            }
            int value = 0;
            for (int k = from; k < end; k++) {
                value = 10 * value + tape[k] - '0';
            }
            return NUMBER_BASE + value;
        }

        private int nameOf(int from, int end) {
            int name = 0;
            int begin = 0;
            for (int k = 0; k <= NAMES.length(); k++) {
                if (k == NAMES.length() || NAMES.charAt(k) == ' ') {
                    if (k - begin == end - from && isNameAt(begin, k, from)) {
                        return name;
                    }
                    name++;
                    begin = k + 1;
                }
            }
            return WRONG;
        }

        private boolean isNameAt(int begin, int end, int from) {
            for (int k = begin; k < end; k++) {
                if (NAMES.charAt(k) != tape[from + k - begin]) {
                    return false;
                }
            }
            return true;
        }

        /** Goes on if the wanted token stands here; the end is never gone beyond. */
        private boolean passes(int wanted) {
            if (at >= last || token[at] != wanted) {
                return false;
            }
            at++;
            return true;
        }

        private boolean readRule() {
            int kind = token[at];
            if (!isWithin(kind, ANIMAL, OSTRICH)) {
                return false;
            }
            at++;
            book.begin();
            if (passes(IF) && !readCondition(0)) {
                return false;
            }
            return readDeed(kind);
        }

        /** DO and ";" of a RULE for a KIND. */
        private boolean readDeed(int kind) {
            int deed = token[at] - FREE;
            if (!isWithin(deed, 0, STOP - FREE)) {
                return false;
            }
            at++;
            int more = 0;
            if (deed == RuleBook.DEAR) {
                more = token[at] - NUMBER_BASE;
                if (!isWithin(more, 0, MOST_DEAR)) {
                    return false;
                }
                at++;
            }
            if (!passes(BYTE_BASE + ';')) {
                return false;
            }
            book.finish(kind, deed, more);
            return true;
        }

        /** COND; open tells how many "(" are open around it. */
        private boolean readCondition(int open) {
            if (!readAll(open)) {
                return false;
            }
            while (at < last && token[at] == OR) {
                at++;
                if (!readAll(open)) {
                    return false;
                }
                book.emit(RuleBook.OR);
            }
            return true;
        }

        private boolean readAll(int open) {
            if (!readOne(open)) {
                return false;
            }
            while (at < last && token[at] == AND) {
                at++;
                if (!readOne(open)) {
                    return false;
                }
                book.emit(RuleBook.AND);
            }
            return true;
        }

        private boolean readOne(int open) {
            boolean isTurned = false;
            while (at < last && token[at] == NOT) {
                at++;
                isTurned = !isTurned;
            }
            if (!(token[at] == BYTE_BASE + '(' ? readGroup(open) : readComparison())) {
                return false;
            }
            if (isTurned) {
                book.emit(RuleBook.NOT);
            }
            return true;
        }

        private boolean readGroup(int open) {
            return open < MOST_OPEN && passes(BYTE_BASE + '(') && readCondition(open + 1) && passes(BYTE_BASE + ')');
        }

        private boolean readComparison() {
            int left = valueHere();
            if (left == NONE) {
                return false;
            }
            at++;
            int sign = signHere();
            if (sign == NONE) {
                return false;
            }
            at++;
            int right = valueHere();
            if (right == NONE) {
                return false;
            }
            at++;
            book.emit(RuleBook.comparison(left, sign, right));
            return true;
        }

        private int valueHere() {
            if (token[at] >= NUMBER_BASE) {
                return token[at] - NUMBER_BASE;
            }
            return token[at] >= LEVEL && token[at] <= NUMBER ? RuleBook.FACT_BASE + token[at] - LEVEL : NONE;
        }

        private int signHere() {
            switch (token[at]) {
                case BYTE_BASE + '<': return RuleBook.LESS;
                case BYTE_BASE + '=': return RuleBook.EQUAL;
                case BYTE_BASE + '>': return RuleBook.MORE;
                default: return NONE;
            }
        }
    }

    /** Finds the first TUNED row. What belongs to PHASE p of ANIMAL i stands in place i * MOST_CRANK + p. */
    private static final class Tuner {
        private static final int EARLY_TURNS = 64;

        final int[] row = new int[MOST_ANIMALS];
        // The TURNS in which it is HIGH, a bit each: the first 64, and those behind them.
        private final long[] early = new long[MOST_ANIMALS * MOST_CRANK];
        private final long[] late = new long[MOST_ANIMALS * MOST_CRANK];
        // The TURNS by which so many TEETH, modulo CRANK, have gone.
        private final long[] earlyGone = new long[MOST_CRANK];
        private final long[] lateGone = new long[MOST_CRANK];
        // The PHASES of the next ANIMAL with which there is no CLASH.
        private final int[] suits = new int[MOST_ANIMALS * MOST_CRANK];
        // The PHASES of an ANIMAL from which a row can be gone on with to its end.
        private final int[] goesOn = new int[MOST_ANIMALS];

        /** Needs ring.askRules() ahead of it. */
        boolean findRow(Ring ring) {
            for (int i = 0; i < ring.count; i++) {
                markHighTurns(ring, i);
            }
            for (int i = 0; i < ring.pairs(); i++) {
                markSuiting(ring, i);
            }
            if (ring.count < 2) {
                row[0] = 0;
                return true;
            }
            for (int first = 0; first < ring.crank[0]; first++) {
                markGoingOn(ring, first);
                if ((suits[first] & goesOn[1]) != 0) {
                    writeRow(ring, first);
                    return true;
                }
            }
            return false;
        }

        private void markHighTurns(Ring ring, int i) {
            sortTurns(ring, i);
            for (int phase = 0; phase < ring.crank[i]; phase++) {
                int entry = i * MOST_CRANK + phase;
                early[entry] = 0;
                late[entry] = 0;
                for (int gone = 0; gone < ring.crank[i]; gone++) {
                    if (ring.heightAt(i, remainder(phase + gone, ring.crank[i])) >= ring.level) {
                        early[entry] |= earlyGone[gone];
                        late[entry] |= lateGone[gone];
                    }
                }
            }
        }

        private void sortTurns(Ring ring, int i) {
            Arrays.fill(earlyGone, 0);
            Arrays.fill(lateGone, 0);
            for (int t = 0; t < TURNS_TUNED; t++) {
                int gone = ring.placeWith(i, 0, ring.paceNow[i], t);
                if (t < EARLY_TURNS) {
                    earlyGone[gone] |= 1L << t;
                } else {
                    lateGone[gone] |= 1L << t - EARLY_TURNS;
                }
            }
        }

        private void markSuiting(Ring ring, int i) {
            int next = ring.nextOf(i);
            for (int phase = 0; phase < ring.crank[i]; phase++) {
                int mine = i * MOST_CRANK + phase;
                suits[mine] = 0;
                for (int other = 0; other < ring.crank[next]; other++) {
                    int its = next * MOST_CRANK + other;
                    if ((early[mine] & early[its]) == 0 && (late[mine] & late[its]) == 0) {
                        suits[mine] |= 1 << other;
                    }
                }
            }
        }

        /** From the last ANIMAL back to the second, for rows that begin with a PHASE first. */
        private void markGoingOn(Ring ring, int first) {
            int end = ring.count - 1;
            for (int i = end; i > 0; i--) {
                int wanted = i == end ? 1 << first : goesOn[i + 1];
                boolean isFree = i == end && ring.pairs() == end;
                goesOn[i] = 0;
                for (int phase = 0; phase < ring.crank[i]; phase++) {
                    if (isFree || (suits[i * MOST_CRANK + phase] & wanted) != 0) {
                        goesOn[i] |= 1 << phase;
                    }
                }
            }
        }

        private void writeRow(Ring ring, int first) {
            row[0] = first;
            for (int i = 1; i < ring.count; i++) {
                row[i] = leastOf(suits[(i - 1) * MOST_CRANK + row[i - 1]] & goesOn[i]);
            }
        }

        private static int leastOf(int phases) {
            for (int phase = 0; phase < MOST_CRANK; phase++) {
                if ((phases >> phase & 1) == 1) {
                    return phase;
                }
            }
            return 0;
        }
    }

    /** The CHILDREN. */
    private static final class Children {
        final int[] wish = new int[MOST_CHILDREN];
        final int[] coins = new int[MOST_CHILDREN];
        final int[] ridden = new int[MOST_CHILDREN];
        int count;

        boolean has(int c) {
            return c >= 0 && c < count;
        }

        int add(int itsWish, int itsCoins) {
            wish[count] = itsWish;
            coins[count] = itsCoins;
            ridden[count] = NOT_SUCH;
            count++;
            return count - 1;
        }

        void copyFrom(Children other) {
            System.arraycopy(other.wish, 0, wish, 0, MOST_CHILDREN);
            System.arraycopy(other.coins, 0, coins, 0, MOST_CHILDREN);
            System.arraycopy(other.ridden, 0, ridden, 0, MOST_CHILDREN);
            count = other.count;
        }
    }

    /** SEATS: for each set of ANIMALS that CHILDREN ahead have taken, the most that those behind can pay. */
    private static final class Seating {
        private static final int ON_NONE = 15, SEAT_BITS = 4;

        final int[] animal = new int[MOST_CHILDREN];
        private final int[] most = new int[1 << MOST_ANIMALS];
        // By taken set: the ANIMAL of CHILD c stands in bits 4c to 4c + 3.
        private final int[] choice = new int[1 << MOST_ANIMALS];

        /** Needs ring.askRules() ahead of it; answers the PRICES NOW together. */
        int fill(Ring ring, Children children) {
            Arrays.fill(most, 0);
            Arrays.fill(choice, 0);
            for (int c = children.count - 1; c >= 0; c--) {
                int may = ring.thoseFor(children.coins[c]) & children.wish[c];
                seatBehind(c, ring, may);
            }
            writeSeats(children.count);
            return most[0];
        }

        /** Sets go upwards: that of a larger set still tells of the CHILDREN behind c when it is looked at. */
        private void seatBehind(int c, Ring ring, int may) {
            for (int taken = 0; taken < 1 << ring.count; taken++) {
                // c CHILDREN ahead can't have taken more than c ANIMALS.
                if (Integer.bitCount(taken) <= c) {
                    seatBest(c, ring, taken, may & ~taken);
                }
            }
        }

        private void seatBest(int c, Ring ring, int taken, int may) {
            int best = -1;
            int seat = ON_NONE;
            for (int i = 0; i < ring.count; i++) {
                if ((may >> i & 1) == 1 && ring.priceNow[i] + most[taken | 1 << i] > best) {
                    best = ring.priceNow[i] + most[taken | 1 << i];
                    seat = i;
                }
            }
            if (most[taken] > best) {
                best = most[taken];
                seat = ON_NONE;
            }
            most[taken] = best;
            choice[taken] |= seat << SEAT_BITS * c;
        }

        private void writeSeats(int count) {
            int taken = 0;
            for (int c = 0; c < count; c++) {
                int seat = choice[taken] >> SEAT_BITS * c & ON_NONE;
                if (seat < MOST_ANIMALS) {
                    animal[c] = seat;
                    taken |= 1 << seat;
                } else {
                    animal[c] = NONE;
                }
            }
        }
    }

    /** The PHOTOS. */
    private static final class Photos {
        final int[] of = new int[MOST_PHOTOS];
        final int[] turn = new int[MOST_PHOTOS];
        final int[] height = new int[MOST_PHOTOS];
        int count;
        int firstWrong;

        int add(int i, int t, int itsHeight) {
            of[count] = i;
            turn[count] = t;
            height[count] = itsHeight;
            count++;
            return count - 1;
        }

        void copyFrom(Photos other) {
            System.arraycopy(other.of, 0, of, 0, MOST_PHOTOS);
            System.arraycopy(other.turn, 0, turn, 0, MOST_PHOTOS);
            System.arraycopy(other.height, 0, height, 0, MOST_PHOTOS);
            count = other.count;
        }

        /** How many PHOTOS of an ANIMAL tell another HEIGHT than it has with a PHASE; firstWrong is the least of them. */
        int wrongOnes(Ring ring, int i, int phase) {
            int pace = ring.paceWith(i, phase);
            int wrong = 0;
            firstWrong = NONE;
            for (int k = 0; k < count; k++) {
                if (of[k] == i && ring.heightAt(i, ring.placeWith(i, phase, pace, turn[k])) != height[k]) {
                    firstWrong = wrong == 0 ? k : firstWrong;
                    wrong++;
                }
            }
            return wrong;
        }
    }

    /** The ROWS, and THE READER. */
    private static final class Rows {
        private static final int TURN = 0, PLACE = 1, HEIGHT = 2, WIDTH = 3;

        final int[] cell = new int[MOST_ROWS * WIDTH];
        int count;

        boolean has(int k, int what) {
            return k >= 0 && k < count && isWithin(what, TURN, HEIGHT);
        }

        int cellAt(int k, int what) {
            return k * WIDTH + what;
        }

        int fill(Ring ring, int i, int t, int n) {
            for (int k = 0; k < n; k++) {
                int place = ring.placeNow(i, t + k);
                cell[cellAt(k, TURN)] = t + k;
                cell[cellAt(k, PLACE)] = place;
                cell[cellAt(k, HEIGHT)] = ring.heightAt(i, place);
            }
            count = n;
            return n;
        }

        boolean isRight(Ring ring, int i, int k) {
            int t = cell[cellAt(k, TURN)];
            if (!isWithin(t, 0, MOST_TURN_READ) || k > 0 && t != cell[cellAt(k - 1, TURN)] + 1) {
                return false;
            }
            int place = ring.placeNow(i, t);
            return cell[cellAt(k, PLACE)] == place && cell[cellAt(k, HEIGHT)] == ring.heightAt(i, place);
        }
    }

    /** The SHEETS. */
    private static final class Sheets {
        final int[] sort = {MISSING, MISSING, MISSING, MISSING};
        final int[] size = new int[SHEETS];
        // Items are written as ints, so that an int tells all of a long there, too.
        final int[][] item = new int[SHEETS][SHEET_SIZE];

        void renew(int sheet, int itsSort, int n) {
            sort[sheet] = itsSort;
            size[sheet] = n;
            Arrays.fill(item[sheet], 0);
        }

        boolean hasItem(int sheet, int i) {
            return i >= 0 && i < size[sheet];
        }

        static int narrowed(int sort, int v) {
            switch (sort) {
                case BYTES: return (byte) v;
                case SHORTS: return (short) v;
                case BOOLEANS: return v != 0 ? 1 : 0;
                default: return v;
            }
        }
    }

    /** The SHELVES. A row on a shelf is the one that the SHEET was then: its sort and size stay, whatever the SHEET becomes. */
    private static final class Shelves {
        final int[] animal = {NONE, NONE, NONE, NONE};
        final int[] sort = {MISSING, MISSING, MISSING, MISSING};
        final int[] size = new int[SHELVES];

        void clear(int shelf) {
            animal[shelf] = NONE;
            sort[shelf] = MISSING;
        }

        void holdAnimal(int shelf, int i) {
            animal[shelf] = i;
            sort[shelf] = MISSING;
        }

        void holdRow(int shelf, int itsSort, int itsSize) {
            animal[shelf] = NONE;
            sort[shelf] = itsSort;
            size[shelf] = itsSize;
        }

        boolean holdsRow(int shelf) {
            return sort[shelf] != MISSING;
        }
    }

    /** ACTS of one thing at a time, and THE TRACE of the bodies that ran. */
    private static final class Acts {
        final int[] body = new int[TRACE_SIZE];
        int count;
        private int kind;
        private int number;
        private int crank;
        private boolean isPartedByZero;

        void forget() {
            count = 0;
        }

        int perform(int itsKind, int itsNumber, int itsCrank, int act, int x) {
            kind = itsKind;
            number = itsNumber;
            crank = itsCrank;
            isPartedByZero = false;
            int answer = answerOf(act, x);
            return isPartedByZero ? PARTED_BY_ZERO : answer;
        }

        private int answerOf(int act, int x) {
            switch (act) {
                case LIFTS: return lifts(x);
                case TURNS: return turns(x);
                case SHARES: return shares(x);
                default: return tells(x);
            }
        }

        private void began(int itsBody) {
            if (count < TRACE_SIZE) {
                body[count] = itsBody;
                count++;
            }
        }

        private int lifts(int x) {
            boolean isHorse = isUnder(kind, HORSE);
            if (kind == WHITE) {
                began(50);
            }
            if (isHorse) {
                began(20);
            }
            began(10);
            int lifted = isHorse ? (x + number) * 3 : x + number;
            return kind == WHITE ? lifted ^ number : lifted;
        }

        private int turns(int x) {
            boolean isSwan = isUnder(kind, SWAN);
            if (kind == OSTRICH) {
                began(60);
            }
            if (isSwan) {
                began(30);
            }
            began(11);
            int turned = lifts(x) * 2;
            if (isSwan) {
                turned -= crank;
            }
            return kind == OSTRICH ? 0 - turned : turned;
        }

        private int shares(int x) {
            if (kind == LAME) {
                began(40);
            }
            if (kind == OSTRICH) {
                began(61);
            }
            began(12);
            if (crank == number) {
                isPartedByZero = true;
                return 0;
            }
            int share = (kind == LAME ? x + 1 : x) / (crank - number);
            return kind == OSTRICH ? share + lifts(crank) : share;
        }

        private int tells(int x) {
            if (kind == WHITE) {
                began(51);
            }
            began(13);
            int told = turns(x) ^ crank;
            return kind == WHITE ? told + shares(number) : told;
        }
    }
}
