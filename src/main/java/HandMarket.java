import java.util.Arrays;

/** Matches made by handwriting alone; ../shared/DOC.md says what each call answers. */
public final class HandMarket {
    public static final int BAD = -1, STATE = -2, FULL = -3, NONE = -4;

    private static final int HANDS = 8, SIDE = 4, NOBODY = -1;
    private static final int LEFT_BITS = 15, RIGHT_BITS = 240, BIT_SETS = 256;
    private static final int PLAIN = 0, TAUGHT = 1, VAIN = 2, TREMBLER = 3;
    private static final int LOOPS = 0, BARS = 1, LEAN = 2, TRAITS = 3;
    private static final int MOST_STROKES = 9, MOST_LEAN = 2;
    private static final int FAULT_NULL = 1, FAULT_INDEX = 2, FAULT_CAST = 3, FAULT_SIZE = 4;
    private static final int MOST_YEARS = 20, YEAR_LIMIT = 1000;
    private static final int SHEETS = 4, LANES = 3, MOST_CELLS = 40, MOST_READ = 20;
    private static final int MOST_DRIFT = 60;
    private static final int TEN = 10;

    private final Town town = new Town();
    /** A second town, so that what would be can be tried without touching what is. */
    private final Town trial = new Town();
    private final Town firstImage = new Town();
    private final Town secondImage = new Town();
    private int keptImages;
    private final Tape tape = new Tape();
    private final Scribe scribe = new Scribe(tape);
    private final Courtship courtship = new Courtship();
    private final Sightings sightings = new Sightings();
    private final int[] tally = new int[MOST_STROKES + 1];
    private final Sheet[] sheets = new Sheet[SHEETS];
    private int tornBy;

    public HandMarket() {
        for (int k = 0; k < SHEETS; k++) {
            sheets[k] = new Sheet();
        }
    }

    // ---- the text, what there is

    public int feed(int c) {
        if (c < 0 || c > 127) {
            return BAD;
        }
        return tape.put(c) ? tape.size : FULL;
    }

    public int end(int n) {
        int had = tape.size;
        if (n < 0 || n > had) {
            return BAD;
        }
        tape.size = n;
        return had;
    }

    public int text() {
        scribe.parse();
        tape.size = 0;
        if (scribe.fault != 0) {
            return -10 - scribe.place;
        }
        town.become(scribe.draft);
        sightings.size = 0;
        keptImages = 0;
        return scribe.lines;
    }

    public int fault() {
        return scribe.fault;
    }

    public int rule(int what) {
        switch (what) {
            case 0: return town.lefts;
            case 1: return town.rights;
            case 2: return town.runBits;
            case 3: return town.wedBits();
            case 4: return town.year;
            default: return BAD;
        }
    }

    public int hand(int a, int what) {
        if (!town.isHand(a)) {
            return BAD;
        }
        switch (what) {
            case 0: return town.kind[a];
            case 1: return town.loops[a];
            case 2: return town.bars[a];
            case 3: return town.lean[a];
            case 4: return town.pen[a];
            case 5: return orNone(town.spouse[a]);
            case 6: return town.folded[a];
            default: return BAD;
        }
    }

    public int page(int a, int what) {
        if (!town.isHand(a) || !isTrait(what)) {
            return BAD;
        }
        return town.shows(a, what);
    }

    public int likes(int a, int b) {
        if (!town.isHand(a) || !town.isHand(b) || Town.sameSide(a, b)) {
            return BAD;
        }
        courtship.weigh(town);
        return courtship.liking(a, b);
    }

    public int rather(int a, int k) {
        if (!town.isHand(a) || k < 0) {
            return BAD;
        }
        courtship.weigh(town);
        return orNone(courtship.choiceOf(a, k));
    }

    // ---- what is changed

    public int alter(int a, int what, int v) {
        if (!town.isHand(a)) {
            return BAD;
        }
        switch (what) {
            case 0: return replace(town.kind, a, v, v >= PLAIN && v <= TREMBLER);
            case 1: return replace(town.loops, a, v, isStrokes(v));
            case 2: return replace(town.bars, a, v, isStrokes(v));
            case 3: return replace(town.lean, a, v, v >= 0 && v <= MOST_LEAN);
            case 4: return replace(town.pen, a, v, town.isHand(v));
            default: return BAD;
        }
    }

    public int run(int a, boolean is) {
        if (!town.isHand(a)) {
            return BAD;
        }
        int was = town.isRun(a) ? 1 : 0;
        town.setRun(a, is);
        return was;
    }

    public int fold(int a, int b, boolean is) {
        if (!town.isLeft(a) || !town.isRight(b)) {
            return BAD;
        }
        int was = town.areFolded(a, b) ? 1 : 0;
        town.setFolded(a, b, is);
        return was;
    }

    public int wed(int a, int b) {
        if (!town.isLeft(a) || !town.isRight(b)) {
            return BAD;
        }
        if (town.isWed(a) || town.isWed(b) || town.areFolded(a, b)) {
            return STATE;
        }
        town.join(a, b);
        return town.couples();
    }

    public int part(int a) {
        if (!town.isHand(a)) {
            return BAD;
        }
        int b = town.spouse[a];
        if (b == NOBODY) {
            return STATE;
        }
        town.divorce(a, b);
        return b;
    }

    // ---- pairs

    public int asked(int side, int a) {
        if (side < 0 || side > 1 || !town.isHand(a)) {
            return BAD;
        }
        courtship.court(town, side);
        return orNone(courtship.mate[a]);
    }

    public int sum(int what) {
        if (what < 0 || what > 3) {
            return BAD;
        }
        courtship.court(town, what / 2);
        return what % 2 == 0 ? courtship.pairs() : courtship.allLikes();
    }

    public int hold(int what) {
        int a = what - TEN;
        if (what != 0 && !town.isHand(a)) {
            return BAD;
        }
        courtship.court(town, 0);
        return what == 0 ? courtship.countHolding() : courtship.countHoldingWith(a, courtship.mate[a]);
    }

    public int most(int what) {
        int a = what - TEN;
        if (what != 0 && !town.isLeft(a)) {
            return BAD;
        }
        courtship.weigh(town);
        int best = courtship.findMost();
        return what == 0 ? best : orNone(courtship.bestMate[a]);
    }

    public int quarrel(int what) {
        if (what < 0 || what > 1) {
            return BAD;
        }
        courtship.weigh(town);
        courtship.setMates(town.spouse);
        int first = courtship.firstQuarrel();
        return what == 1 ? orNone(first) : courtship.quarrels();
    }

    public int alone() {
        courtship.court(town, 0);
        return courtship.present & ~courtship.matedBits();
    }

    // ---- hands that grow alike, pens

    public int years(int n) {
        if (n < 0 || n > MOST_YEARS) {
            return BAD;
        }
        if (town.year + n >= YEAR_LIMIT) {
            return FULL;
        }
        for (int i = 0; i < n; i++) {
            town.passYear();
        }
        return town.year;
    }

    public int alike() {
        trial.become(town);
        for (int years = 0; years <= MOST_YEARS; years++) {
            if (trial.couplesAlike()) {
                return years;
            }
            trial.passYear();
        }
        return NONE;
    }

    public int near(int what) {
        if (what < 0 || what > 1) {
            return BAD;
        }
        int pair = NONE;
        int least = NONE;
        for (int a = 0; a < HANDS; a++) {
            for (int b = a + 1; b < HANDS; b++) {
                if (!town.isHand(a) || !town.isHand(b)) {
                    continue;
                }
                int gap = town.unlike(a, b);
                if (least == NONE || gap < least) {
                    least = gap;
                    pair = TEN * a + b;
                }
            }
        }
        return what == 0 ? pair : least;
    }

    public int forge(int a, int what) {
        if (!town.isHand(a) || what < 0 || what > 1) {
            return BAD;
        }
        trial.become(town);
        int bestPen = NOBODY;
        int bestMate = NOBODY;
        int bestLiking = 0;
        for (int p = 0; p < HANDS; p++) {
            if (!town.isHand(p)) {
                continue;
            }
            trial.pen[a] = p;
            courtship.court(trial, 0);
            int mate = courtship.mate[a];
            int liking = mate == NOBODY ? NOBODY : courtship.liking(a, mate);
            if (bestPen == NOBODY || liking > bestLiking) {
                bestPen = p;
                bestMate = mate;
                bestLiking = liking;
            }
        }
        return what == 0 ? orNone(bestPen) : orNone(bestMate);
    }

    public int swap(int what) {
        if (what < 0 || what > 1) {
            return BAD;
        }
        trial.become(town);
        courtship.court(trial, 0);
        int most = courtship.allLikes();
        int pair = NONE;
        for (int a = 0; a < HANDS; a++) {
            for (int b = a + 1; b < HANDS; b++) {
                if (!town.isHand(a) || !town.isHand(b)) {
                    continue;
                }
                int sum = likesIfSwapped(a, b);
                if (sum > most) {
                    most = sum;
                    pair = TEN * a + b;
                }
            }
        }
        return what == 0 || pair == NONE ? pair : most;
    }

    // ---- pages stolen

    public long mean(int v, int what) {
        if (v < 0 || v > TEN || what < 0 || what > 1) {
            return BAD;
        }
        return lowestTerms(stolenSum(v, NOBODY), power(TEN, town.size()), what);
    }

    public long luck(int v, int a, int what) {
        if (v < 0 || v > TEN || !town.isHand(a) || what < 0 || what > 1) {
            return BAD;
        }
        return lowestTerms(stolenSum(v, a), power(TEN, town.size()), what);
    }

    // ---- who wrote for whom

    public int see(int a, int what, int v) {
        if (!town.isHand(a) || !isTrait(what) || !isStrokes(v)) {
            return BAD;
        }
        return sightings.add(a, what, v) ? sightings.size : FULL;
    }

    public int forget(int n) {
        int were = sightings.size;
        if (n < 0 || n > were) {
            return BAD;
        }
        sightings.size = n;
        return were;
    }

    public int fits(int a) {
        return town.isHand(a) ? fittingPens(a) : BAD;
    }

    public int look(int a, int what) {
        if (!town.isHand(a) || what < 0 || what > 1) {
            return BAD;
        }
        int fitting = fittingPens(a);
        int fewest = Integer.bitCount(fitting);
        int trait = NONE;
        for (int t = 0; t < TRAITS; t++) {
            int left = leftAtWorst(a, t, fitting);
            if (left < fewest) {
                fewest = left;
                trait = t;
            }
        }
        return what == 0 || trait == NONE ? trait : fewest;
    }

    // ---- by a seed

    public int drift(int seed, int n, int what) {
        if (n < 1 || n > MOST_DRIFT || what < 0 || what > 1) {
            return BAD;
        }
        int size = town.size();
        if (size < 1) {
            return STATE;
        }
        trial.become(town);
        int state = seed;
        int likesInAll = 0;
        for (int i = 0; i < n; i++) {
            state = nextSeed(state);
            int a = trial.byOrder(drawn(state) % size);
            state = nextSeed(state);
            trial.pen[a] = trial.byOrder(drawn(state) % size);
            // only the sum asks for the pairs on the way
            if (what == 1) {
                courtship.court(trial, 0);
                likesInAll += courtship.allLikes();
            }
        }
        if (what == 1) {
            return likesInAll;
        }
        courtship.court(trial, 0);
        return courtship.pairs();
    }

    // ---- images, sheets

    public int keep(int k) {
        if (k < 0 || k > 1) {
            return BAD;
        }
        int was = hasImage(k) ? 1 : 0;
        imageOf(k).become(town);
        keptImages |= 1 << k;
        return was;
    }

    public int back(int k) {
        if (k < 0 || k > 1) {
            return BAD;
        }
        if (!hasImage(k)) {
            return STATE;
        }
        town.become(imageOf(k));
        return town.year;
    }

    public int sheet(int k, int lane, int n) {
        if (!isSheet(k) || !isLane(lane) || n > MOST_CELLS) {
            return BAD;
        }
        if (n < 0) {
            return -10 - FAULT_SIZE;
        }
        sheets[k].renew(lane, n);
        return 1;
    }

    public int lay(int k, int i, int v) {
        if (!isSheet(k)) {
            return BAD;
        }
        Sheet row = sheets[k];
        int found = row.faultAt(row.lane, i);
        if (found != 0) {
            return -10 - found;
        }
        row.put(i, v);
        return 1;
    }

    public int read(int k, int lane, int f, int n) {
        if (!isSheet(k) || !isLane(lane) || n < 0 || n > MOST_READ) {
            return BAD;
        }
        Sheet row = sheets[k];
        // a BAD two undoes those ahead of it, so they are first put down in the trial
        trial.become(town);
        int found = 0;
        int whole = 0;
        for (int i = 0; i < n; i++) {
            int at = f + 2 * i;
            found = row.faultAtTwo(lane, at);
            if (found != 0) {
                break;
            }
            int a = row.cells[at];
            int p = row.cells[at + 1];
            if (!town.isHand(a) || !town.isHand(p)) {
                return -20 - i;
            }
            trial.pen[a] = p;
            whole++;
        }
        town.become(trial);
        tornBy = found;
        return whole;
    }

    public int torn() {
        return tornBy;
    }

    public int count(int what) {
        switch (what) {
            case 0: return sightings.size;
            case 1: return Integer.bitCount(keptImages);
            case 2: return tape.size;
            case 3: return sheets[0].isNothing() ? NONE : sheets[0].size;
            case 4: return town.couples();
            case 5: return town.foldings();
            default: return BAD;
        }
    }

    // ---- helpers of the calls

    private static int orNone(int found) {
        return found == NOBODY ? NONE : found;
    }

    private static boolean isTrait(int what) {
        return what >= LOOPS && what <= LEAN;
    }

    private static boolean isStrokes(int v) {
        return v >= 0 && v <= MOST_STROKES;
    }

    private static boolean isSheet(int k) {
        return k >= 0 && k < SHEETS;
    }

    private static boolean isLane(int lane) {
        return lane >= 0 && lane < LANES;
    }

    private static int replace(int[] row, int a, int v, boolean allowed) {
        if (!allowed || a < 0 || a >= row.length) {
            return BAD;
        }
        int was = row[a];
        row[a] = v;
        return was;
    }

    private int likesIfSwapped(int a, int b) {
        trial.swapPens(a, b);
        courtship.court(trial, 0);
        trial.swapPens(a, b);
        return courtship.allLikes();
    }

    /** In how many of all 10 ^ HANDS cases a HAND has somebody; for NOBODY: how many PAIRS in all cases. */
    private long stolenSum(int v, int a) {
        courtship.weigh(town);
        int all = courtship.present;
        long total = 0;
        for (int gone = 0; gone < BIT_SETS; gone++) {
            if ((gone & ~all) != 0) {
                continue;
            }
            int stolen = Integer.bitCount(gone);
            long cases = power(v, stolen) * power(TEN - v, town.size() - stolen);
            if (cases > 0) {
                courtship.ask(all & ~gone & LEFT_BITS, all & ~gone & RIGHT_BITS);
                total += cases * (a == NOBODY ? courtship.pairs() : courtship.matedBits() >> a & 1);
            }
        }
        return total;
    }

    private static long power(int base, int exponent) {
        long product = 1;
        for (int i = 0; i < exponent; i++) {
            product *= base;
        }
        return product;
    }

    private static long lowestTerms(long numerator, long denominator, int what) {
        long divisor = commonDivisor(numerator, denominator);
        if (divisor < 1) {
            return BAD;
        }
        return what == 0 ? numerator / divisor : denominator / divisor;
    }

    private static long commonDivisor(long a, long b) {
        long one = a;
        long other = b;
        // Euclid's steps on longs stay below 100
        for (int i = 0; i < 100 && other != 0; i++) {
            long rest = one % other;
            one = other;
            other = rest;
        }
        return one;
    }

    private int fittingPens(int a) {
        trial.become(town);
        int bits = 0;
        for (int p = 0; p < HANDS; p++) {
            if (!town.isHand(p)) {
                continue;
            }
            trial.pen[a] = p;
            if (sightings.agreeWith(trial, a)) {
                bits |= 1 << p;
            }
        }
        return bits;
    }

    private int leftAtWorst(int a, int trait, int pens) {
        trial.become(town);
        Arrays.fill(tally, 0);
        int worst = 0;
        for (int p = 0; p < HANDS; p++) {
            if ((pens >> p & 1) == 0) {
                continue;
            }
            trial.pen[a] = p;
            int shown = trial.shows(a, trait);
            if (isStrokes(shown)) {
                tally[shown]++;
                worst = Math.max(worst, tally[shown]);
            }
        }
        return worst;
    }

    private static int nextSeed(int seed) {
        return seed * 1103515245 + 12345;
    }

    private static int drawn(int seed) {
        return seed >>> 16 & 32767;
    }

    private boolean hasImage(int k) {
        return (keptImages >> k & 1) == 1;
    }

    private Town imageOf(int k) {
        return k == 0 ? firstImage : secondImage;
    }

    /** All that a text tells: HANDS, what is RUN, FOLDED, WED, and the YEAR. */
    private static final class Town {
        final int[] kind = new int[HANDS];
        final int[] loops = new int[HANDS];
        final int[] bars = new int[HANDS];
        final int[] lean = new int[HANDS];
        final int[] pen = new int[HANDS];
        final int[] spouse = new int[HANDS];
        /** For each HAND the bits of those with whom it is FOLDED. */
        final int[] folded = new int[HANDS];
        int lefts;
        int rights;
        int runBits;
        int year;

        Town() {
            clear();
        }

        void clear() {
            for (int a = 0; a < HANDS; a++) {
                pen[a] = a;
                spouse[a] = NOBODY;
                folded[a] = 0;
            }
            lefts = 0;
            rights = 0;
            runBits = 0;
            year = 0;
        }

        void become(Town other) {
            System.arraycopy(other.kind, 0, kind, 0, HANDS);
            System.arraycopy(other.loops, 0, loops, 0, HANDS);
            System.arraycopy(other.bars, 0, bars, 0, HANDS);
            System.arraycopy(other.lean, 0, lean, 0, HANDS);
            System.arraycopy(other.pen, 0, pen, 0, HANDS);
            System.arraycopy(other.spouse, 0, spouse, 0, HANDS);
            System.arraycopy(other.folded, 0, folded, 0, HANDS);
            lefts = other.lefts;
            rights = other.rights;
            runBits = other.runBits;
            year = other.year;
        }

        boolean isLeft(int a) {
            return a >= 0 && a < lefts;
        }

        boolean isRight(int a) {
            return a >= SIDE && a < SIDE + rights;
        }

        boolean isHand(int a) {
            return a >= 0 && a < lefts || a >= SIDE && a < SIDE + rights;
        }

        static boolean sameSide(int a, int b) {
            return a < SIDE == b < SIDE;
        }

        int size() {
            return lefts + rights;
        }

        int handBits() {
            return (1 << lefts) - 1 | (1 << rights) - 1 << SIDE;
        }

        int byOrder(int i) {
            return i < lefts ? i : SIDE + i - lefts;
        }

        boolean isFull(int side) {
            return (side == 0 ? lefts : rights) >= SIDE;
        }

        /** Its PEN is left alone: the text may have told it ahead of the HAND. */
        void add(int side, int ofKind, int itsLoops, int itsBars, int itsLean) {
            if (isFull(side)) {
                return;
            }
            int a = side == 0 ? lefts : SIDE + rights;
            if (side == 0) {
                lefts++;
            } else {
                rights++;
            }
            kind[a] = ofKind;
            loops[a] = itsLoops;
            bars[a] = itsBars;
            lean[a] = itsLean;
        }

        boolean isRun(int a) {
            return (runBits >> a & 1) == 1;
        }

        void setRun(int a, boolean is) {
            runBits = withBit(runBits, a, is);
        }

        boolean areFolded(int a, int b) {
            return (folded[a] >> b & 1) == 1;
        }

        void setFolded(int a, int b, boolean is) {
            folded[a] = withBit(folded[a], b, is);
            folded[b] = withBit(folded[b], a, is);
        }

        private static int withBit(int bits, int place, boolean is) {
            return is ? bits | 1 << place : bits & ~(1 << place);
        }

        boolean isWed(int a) {
            return spouse[a] != NOBODY;
        }

        void join(int a, int b) {
            spouse[a] = b;
            spouse[b] = a;
        }

        void divorce(int a, int b) {
            spouse[a] = NOBODY;
            spouse[b] = NOBODY;
        }

        int wedBits() {
            int bits = 0;
            for (int a = 0; a < HANDS; a++) {
                if (isWed(a)) {
                    bits |= 1 << a;
                }
            }
            return bits;
        }

        int couples() {
            return Integer.bitCount(wedBits() & LEFT_BITS);
        }

        int foldings() {
            int all = 0;
            for (int a = 0; a < SIDE; a++) {
                all += Integer.bitCount(folded[a]);
            }
            return all;
        }

        void swapPens(int a, int b) {
            int was = pen[a];
            pen[a] = pen[b];
            pen[b] = was;
        }

        /** What the PAGE of a HAND shows. */
        int shows(int a, int trait) {
            if (trait == LEAN) {
                return lean[pen[a]];
            }
            int[] strokes = trait == LOOPS ? loops : bars;
            int other = runsWith(a);
            int own = strokes[pen[a]];
            return other == NOBODY ? own : (own + strokes[pen[other]]) / 2;
        }

        /** The one ahead comes first, as it wins where a PAGE runs with two. */
        private int runsWith(int a) {
            if (isHand(a - 1) && sameSide(a - 1, a) && isRun(a - 1)) {
                return a - 1;
            }
            if (isRun(a) && isHand(a + 1) && sameSide(a, a + 1)) {
                return a + 1;
            }
            return NOBODY;
        }

        int unlike(int a, int b) {
            return Math.abs(loops[a] - loops[b]) + Math.abs(bars[a] - bars[b]);
        }

        boolean couplesAlike() {
            for (int a = 0; a < SIDE; a++) {
                if (isWed(a) && unlike(a, spouse[a]) != 0) {
                    return false;
                }
            }
            return true;
        }

        void passYear() {
            for (int a = 0; a < SIDE; a++) {
                if (isWed(a)) {
                    comeNearer(loops, a, spouse[a]);
                    comeNearer(bars, a, spouse[a]);
                }
            }
            year++;
        }

        private static void comeNearer(int[] strokes, int a, int b) {
            int lesser = strokes[a] < strokes[b] ? a : b;
            int greater = lesser == a ? b : a;
            int gap = strokes[greater] - strokes[lesser];
            if (gap >= 2) {
                strokes[lesser]++;
                strokes[greater]--;
            } else if (gap == 1) {
                strokes[lesser]++;
            }
        }
    }

    /** THE TAPE, and the TOKEN of it that was read last. */
    private static final class Tape {
        static final int LENGTH = 160;
        static final int END = 0, NAME = 1, NUMBER = 2, STOP = 3, NO_TOKEN = 4;

        final byte[] bytes = new byte[LENGTH];
        int size;
        int token;
        int start;
        int behind;
        int value;

        boolean put(int c) {
            if (size >= LENGTH) {
                return false;
            }
            bytes[size] = (byte) c;
            size++;
            return true;
        }

        void rewind() {
            token = END;
            start = 0;
            behind = 0;
        }

        void advance() {
            start = runEnd(behind, ' ', ' ');
            if (start >= size) {
                token = END;
            } else if (bytes[start] == ';') {
                token = STOP;
                behind = start + 1;
            } else if (runEnd(start, 'a', 'z') > start) {
                token = NAME;
                behind = runEnd(start, 'a', 'z');
            } else {
                behind = runEnd(start, '0', '9');
                takeNumber();
            }
        }

        private void takeNumber() {
            int figures = behind - start;
            token = figures == 1 || figures == 2 ? NUMBER : NO_TOKEN;
            value = 0;
            if (token == NUMBER) {
                for (int i = start; i < behind; i++) {
                    value = value * TEN + bytes[i] - '0';
                }
            }
        }

        /** Where the bytes from low to high that begin at a place come to an end. */
        private int runEnd(int from, int low, int high) {
            int i = from;
            while (i < size && bytes[i] >= low && bytes[i] <= high) {
                i++;
            }
            return i;
        }

        boolean spells(String word) {
            if (token != NAME || behind - start != word.length()) {
                return false;
            }
            for (int i = 0; i < word.length(); i++) {
                if (bytes[start + i] != word.charAt(i)) {
                    return false;
                }
            }
            return true;
        }
    }

    /** Reads THE TAPE line by line into a draft, and stops at the first FAULT. */
    private static final class Scribe {
        static final int REFUSED = -1;

        final Tape tape;
        final Town draft = new Town();
        int fault;
        int place;
        int lines;
        private int toldPens;

        Scribe(Tape tape) {
            this.tape = tape;
        }

        void parse() {
            draft.clear();
            fault = 0;
            place = 0;
            lines = 0;
            toldPens = 0;
            tape.rewind();
            tape.advance();
            for (int i = 0; i < Tape.LENGTH && tape.token != Tape.END && line(); i++) {
                lines++;
                tape.advance();
            }
            if (fault == 0 && (namedBits() & ~draft.handBits()) != 0) {
                fault = 6;
                place = tape.size;
            }
        }

        private boolean line() {
            if (!stands(Tape.NAME)) {
                return false;
            }
            int kind = kindNamed();
            if (kind != REFUSED) {
                return handLine(kind);
            }
            if (tape.spells("pen")) {
                return penLine();
            }
            if (tape.spells("run")) {
                return runLine();
            }
            if (tape.spells("fold")) {
                return foldLine();
            }
            return tape.spells("wed") ? wedLine() : refuse(2);
        }

        private int kindNamed() {
            if (tape.spells("plain")) {
                return PLAIN;
            }
            if (tape.spells("taught")) {
                return TAUGHT;
            }
            if (tape.spells("vain")) {
                return VAIN;
            }
            return tape.spells("trembler") ? TREMBLER : REFUSED;
        }

        private boolean handLine(int kind) {
            if (!follows(Tape.NAME)) {
                return false;
            }
            boolean left = tape.spells("left");
            if (!left && !tape.spells("right")) {
                return refuse(2);
            }
            int side = left ? 0 : 1;
            if (draft.isFull(side)) {
                return refuse(5);
            }
            int loops = number(0, MOST_STROKES);
            int bars = loops == REFUSED ? REFUSED : number(0, MOST_STROKES);
            int lean = bars == REFUSED ? REFUSED : number(0, MOST_LEAN);
            if (lean == REFUSED) {
                return false;
            }
            draft.add(side, kind, loops, bars, lean);
            return follows(Tape.STOP);
        }

        private boolean penLine() {
            int a = number(0, HANDS - 1);
            if (a == REFUSED) {
                return false;
            }
            if ((toldPens >> a & 1) == 1) {
                return refuse(4);
            }
            int pen = number(0, HANDS - 1);
            if (pen == REFUSED) {
                return false;
            }
            toldPens |= 1 << a;
            draft.pen[a] = pen;
            return follows(Tape.STOP);
        }

        private boolean runLine() {
            int a = number(0, HANDS - 1);
            if (a == REFUSED) {
                return false;
            }
            if (draft.isRun(a)) {
                return refuse(4);
            }
            draft.setRun(a, true);
            return follows(Tape.STOP);
        }

        private boolean foldLine() {
            int a = number(0, SIDE - 1);
            int b = a == REFUSED ? REFUSED : number(SIDE, HANDS - 1);
            if (b == REFUSED) {
                return false;
            }
            if (draft.areFolded(a, b)) {
                return refuse(4);
            }
            draft.setFolded(a, b, true);
            return follows(Tape.STOP);
        }

        private boolean wedLine() {
            int a = number(0, SIDE - 1);
            if (a == REFUSED) {
                return false;
            }
            if (draft.isWed(a)) {
                return refuse(4);
            }
            int b = number(SIDE, HANDS - 1);
            if (b == REFUSED) {
                return false;
            }
            if (draft.isWed(b)) {
                return refuse(4);
            }
            draft.join(a, b);
            return follows(Tape.STOP);
        }

        /** All HANDS of whom a line tells, be there such or not. */
        private int namedBits() {
            int bits = toldPens | draft.runBits | draft.wedBits();
            for (int a = 0; a < HANDS; a++) {
                bits |= draft.folded[a];
                if ((toldPens >> a & 1) == 1) {
                    bits |= 1 << draft.pen[a];
                }
            }
            return bits;
        }

        private int number(int low, int high) {
            tape.advance();
            if (!stands(Tape.NUMBER)) {
                return REFUSED;
            }
            if (tape.value < low || tape.value > high) {
                refuse(3);
                return REFUSED;
            }
            return tape.value;
        }

        private boolean follows(int token) {
            tape.advance();
            return stands(token);
        }

        private boolean stands(int token) {
            if (tape.token == Tape.NO_TOKEN) {
                return refuse(1);
            }
            return tape.token == token || refuse(2);
        }

        private boolean refuse(int by) {
            fault = by;
            place = tape.start;
            return false;
        }
    }

    /** Who would take whom in a town, and the PAIRS that come of it. */
    private static final class Courtship {
        /** Wishes of 0 and more are for those whom a HAND would take. */
        static final int WISH_NOBODY = -1, WISH_NEVER = -2;
        /** Far above the 16 that can be asked, the 209 PAIRS as a whole. */
        static final int MOST_ASKS = 1000, MOST_PAIRS = 10000;

        final int[] shownLoops = new int[HANDS];
        final int[] shownBars = new int[HANDS];
        final int[] shownLean = new int[HANDS];
        final int[] liked = new int[HANDS * HANDS];
        /** The greater, the rather; no two wishes of one HAND are alike. */
        final int[] wish = new int[HANDS * HANDS];
        final int[] mate = new int[HANDS];
        /** For each HAND the bits of those whom it has not asked. */
        final int[] untried = new int[HANDS];
        final int[] bestMate = new int[HANDS];
        int present;

        /** Goes ahead of all else here, as the town may have changed. */
        void weigh(Town town) {
            present = town.handBits();
            Arrays.fill(wish, WISH_NEVER);
            for (int a = 0; a < HANDS; a++) {
                if (town.isHand(a)) {
                    shownLoops[a] = town.shows(a, LOOPS);
                    shownBars[a] = town.shows(a, BARS);
                    shownLean[a] = town.shows(a, LEAN);
                }
            }
            for (int a = 0; a < town.lefts; a++) {
                for (int b = SIDE; b < SIDE + town.rights; b++) {
                    weighOne(town, a, b);
                    weighOne(town, b, a);
                }
            }
        }

        private void weighOne(Town town, int a, int b) {
            int at = a * HANDS + b;
            liked[at] = likingIn(town, a, b);
            if (!town.areFolded(a, b)) {
                wish[at] = liked[at] * HANDS + HANDS - 1 - b;
            }
        }

        private int likingIn(Town town, int a, int b) {
            int strokes = shownLoops[b] + shownBars[b];
            if (town.kind[a] == VAIN) {
                return strokes;
            }
            if (town.kind[a] == TREMBLER) {
                return 20 - strokes;
            }
            int plain = 20 - Math.abs(shownLoops[b] - town.loops[a]) - Math.abs(shownBars[b] - town.bars[a]);
            return town.kind[a] == TAUGHT && shownLean[b] == town.lean[a] ? plain + 3 : plain;
        }

        int liking(int a, int b) {
            return liked[a * HANDS + b];
        }

        private int wishFor(int a, int b) {
            return b == NOBODY ? WISH_NOBODY : wish[a * HANDS + b];
        }

        /** The one than whom a HAND would rather have just k others. */
        int choiceOf(int a, int k) {
            for (int b = 0; b < HANDS; b++) {
                if (wishFor(a, b) > WISH_NOBODY && countAbove(a, wishFor(a, b)) == k) {
                    return b;
                }
            }
            return NOBODY;
        }

        private int countAbove(int a, int level) {
            int above = 0;
            for (int b = 0; b < HANDS; b++) {
                if (wishFor(a, b) > level) {
                    above++;
                }
            }
            return above;
        }

        void court(Town town, int side) {
            weigh(town);
            int lefts = present & LEFT_BITS;
            int rights = present & RIGHT_BITS;
            if (side == 0) {
                ask(lefts, rights);
            } else {
                ask(rights, lefts);
            }
        }

        void ask(int askers, int others) {
            Arrays.fill(mate, NOBODY);
            Arrays.fill(untried, others);
            int asks = 0;
            while (asks < MOST_ASKS && firstAsks(askers)) {
                asks++;
            }
        }

        private boolean firstAsks(int askers) {
            for (int a = 0; a < HANDS; a++) {
                if ((askers >> a & 1) == 0 || mate[a] != NOBODY) {
                    continue;
                }
                int b = dearest(a, untried[a]);
                if (b != NOBODY) {
                    untried[a] &= ~(1 << b);
                    answer(a, b);
                    return true;
                }
            }
            return false;
        }

        private int dearest(int a, int among) {
            int best = NOBODY;
            int most = WISH_NOBODY;
            int first = a < SIDE ? SIDE : 0;
            for (int b = first; b < first + SIDE; b++) {
                if ((among >> b & 1) == 1 && wish[a * HANDS + b] > most) {
                    best = b;
                    most = wish[a * HANDS + b];
                }
            }
            return best;
        }

        private void answer(int a, int b) {
            int had = mate[b];
            if (wishFor(b, a) > wishFor(b, had)) {
                if (had != NOBODY) {
                    mate[had] = NOBODY;
                }
                mate[a] = b;
                mate[b] = a;
            }
        }

        int matedBits() {
            int bits = 0;
            for (int a = 0; a < HANDS; a++) {
                if (mate[a] != NOBODY) {
                    bits |= 1 << a;
                }
            }
            return bits;
        }

        int pairs() {
            return Integer.bitCount(matedBits() & LEFT_BITS);
        }

        int allLikes() {
            int all = 0;
            for (int a = 0; a < HANDS; a++) {
                if (mate[a] != NOBODY) {
                    all += liking(a, mate[a]);
                }
            }
            return all;
        }

        void setMates(int[] mates) {
            System.arraycopy(mates, 0, mate, 0, Math.min(mates.length, HANDS));
        }

        private boolean quarrelOver(int a, int b) {
            return wishFor(a, b) > wishFor(a, mate[a]) && wishFor(b, a) > wishFor(b, mate[b]);
        }

        int quarrels() {
            int all = 0;
            for (int a = 0; a < SIDE; a++) {
                for (int b = SIDE; b < HANDS; b++) {
                    if (quarrelOver(a, b)) {
                        all++;
                    }
                }
            }
            return all;
        }

        int firstQuarrel() {
            for (int a = 0; a < SIDE; a++) {
                for (int b = SIDE; b < HANDS; b++) {
                    if (quarrelOver(a, b)) {
                        return TEN * a + b;
                    }
                }
            }
            return NOBODY;
        }

        /** From PAIRS as a whole to the next ones, the last LEFT changing first; false behind the last. */
        private boolean toNextPairs() {
            for (int a = SIDE - 1; a >= 0; a--) {
                int had = mate[a];
                if (had != NOBODY) {
                    mate[had] = NOBODY;
                    mate[a] = NOBODY;
                }
                for (int b = had == NOBODY ? SIDE : had + 1; b < HANDS; b++) {
                    if (mate[b] == NOBODY && wishFor(a, b) > WISH_NOBODY) {
                        mate[a] = b;
                        mate[b] = a;
                        return true;
                    }
                }
            }
            return false;
        }

        int countHolding() {
            return countHoldingWith(NOBODY, NOBODY);
        }

        /** PAIRS that HOLD and have a HAND with that mate; of NOBODY nothing is asked. */
        int countHoldingWith(int a, int itsMate) {
            Arrays.fill(mate, NOBODY);
            int holding = 0;
            boolean more = true;
            for (int i = 0; i < MOST_PAIRS && more; i++) {
                boolean fitting = a == NOBODY || mate[a] == itsMate;
                if (fitting && firstQuarrel() == NOBODY) {
                    holding++;
                }
                more = toNextPairs();
            }
            return holding;
        }

        /** The first PAIRS of most LIKES stay in bestMate. */
        int findMost() {
            Arrays.fill(mate, NOBODY);
            Arrays.fill(bestMate, NOBODY);
            int best = 0;
            boolean more = true;
            for (int i = 0; i < MOST_PAIRS && more; i++) {
                int all = allLikes();
                if (all > best) {
                    best = all;
                    System.arraycopy(mate, 0, bestMate, 0, HANDS);
                }
                more = toNextPairs();
            }
            return best;
        }
    }

    /** What is SEEN. */
    private static final class Sightings {
        static final int MOST = 6;

        final int[] of = new int[MOST];
        final int[] trait = new int[MOST];
        final int[] value = new int[MOST];
        int size;

        boolean add(int a, int what, int v) {
            if (size >= MOST) {
                return false;
            }
            of[size] = a;
            trait[size] = what;
            value[size] = v;
            size++;
            return true;
        }

        boolean agreeWith(Town town, int a) {
            for (int i = 0; i < size; i++) {
                if (of[i] == a && town.shows(a, trait[i]) != value[i]) {
                    return false;
                }
            }
            return true;
        }
    }

    /** A row of BYTES, SHORTS or INTS, or nothing. */
    private static final class Sheet {
        static final int NOTHING = -1;

        final int[] cells = new int[MOST_CELLS];
        int lane = NOTHING;
        int size;

        void renew(int ofLane, int cellCount) {
            lane = ofLane;
            size = cellCount;
            Arrays.fill(cells, 0);
        }

        boolean isNothing() {
            return lane == NOTHING;
        }

        /** The FAULT by which a machine would refuse a CELL of this row, taken as of a lane; 0. */
        int faultAt(int asLane, int i) {
            if (isNothing()) {
                return FAULT_NULL;
            }
            if (asLane != lane) {
                return FAULT_CAST;
            }
            return i < 0 || i >= size ? FAULT_INDEX : 0;
        }

        int faultAtTwo(int asLane, int i) {
            int first = faultAt(asLane, i);
            return first != 0 ? first : faultAt(asLane, i + 1);
        }

        void put(int i, int v) {
            if (lane == 0) {
                cells[i] = (byte) v;
            } else if (lane == 1) {
                cells[i] = (short) v;
            } else {
                cells[i] = v;
            }
        }
    }
}
