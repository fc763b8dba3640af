import java.util.Arrays;

/**
 * Lines made plain: rows of poor lines turned to good and bad ones by folding.
 * The document ../shared/DOC.md says what each call promises.
 *
 * A row of bits is held as a long whose lowest bit is for place 0.
 */
public final class PlainLines {
    public static final int UNKNOWN = -1, OUTSIDE = -2, STATE = -3, NONE = -9;
    public static final long LOST = Long.MIN_VALUE;

    private static final int NULL = 1, CAST = 2, INDEX = 3, SIZE = 4;
    private static final int NO_FAULT = 0;

    private static final int MOST_PLACES = 32;
    private static final int MOST_PATHS = 64;
    private static final int MOST_CELLS = 40;
    private static final int SHEET_COUNT = 4;
    private static final int MOST_WALKED_BITS = 12;
    private static final int MOST_COUNTED_PLACES = 16;
    private static final long GREATEST_LOWER = 1000000000000000L;
    private static final long GREATEST_MASK = 0xFFFFFFFFL;

    /** For the steps 1, 2, 4, 8, 16: the places that have a partner that many places further on. */
    private static final long[] FIRST_PARTNERS =
        {0x55555555L, 0x33333333L, 0x0F0F0F0FL, 0x00FF00FFL, 0x0000FFFFL};

    private final Places places;
    private final Reader reader;
    private final Tally tally;
    private final Sheet[] sheets;
    private final Trail trail;
    private final FrozenPart frozenPart;
    private final GoodPart goodPart;
    private final BestPart bestPart;
    private int latestFault;

    public PlainLines() {
        places = new Places();
        reader = new Reader();
        tally = new Tally();
        sheets = new Sheet[SHEET_COUNT];
        for (int k = 0; k < SHEET_COUNT; k++) {
            sheets[k] = new Sheet();
        }
        trail = new Trail();
        frozenPart = new FrozenPart();
        goodPart = new GoodPart();
        bestPart = new BestPart();
        latestFault = NO_FAULT;
    }

    // ---- 1 places

    public int size(int n) {
        if (n != 2 && n != 4 && n != 8 && n != 16 && n != 32) {
            return OUTSIDE;
        }
        int before = places.n;
        places.n = n;
        places.setAll(0L);
        forgetWhatRestsOnPlaces();
        return before;
    }

    public int line(int p, int q) {
        if (q < 1 || q > 8 || p < 0 || p > q) {
            return OUTSIDE;
        }
        places.p = p;
        places.q = q;
        return 1;
    }

    public long share(int place) {
        return places.has(place) ? places.upperNumber(place) : LOST;
    }

    public long lower() {
        return places.lowerNumber();
    }

    public int good(int place) {
        if (!places.has(place)) {
            return UNKNOWN;
        }
        int changed = places.isGood(place) ? 0 : 1;
        places.setGood(place);
        forgetWhatRestsOnPlaces();
        return changed;
    }

    public int freeze(int place, int bit) {
        if (!places.has(place)) {
            return UNKNOWN;
        }
        if (!isBit(bit)) {
            return OUTSIDE;
        }
        int changed = !places.isGood(place) && places.frozenBit(place) == bit ? 0 : 1;
        places.setFrozen(place, bit);
        forgetWhatRestsOnPlaces();
        return changed;
    }

    public long choose(int k) {
        if (k < 0 || k > places.n || places.lowerNumber() == LOST) {
            return LOST;
        }
        long sum = places.takeLeastShares(k);
        forgetWhatRestsOnPlaces();
        return sum;
    }

    public int about(int place, int what) {
        if (!places.has(place)) {
            return UNKNOWN;
        }
        boolean isGood = places.isGood(place);
        switch (what) {
            case 0:
                return isGood ? 1 : 0;
            case 1:
                return isGood ? NONE : places.frozenBit(place);
            case 2:
                return isGood ? places.messageBitOf(place) : NONE;
            default:
                return OUTSIDE;
        }
    }

    public long word(long message) {
        return places.isMessage(message) ? places.wordOf(message) : LOST;
    }

    public long fold(long row) {
        return places.isRow(row) ? folded(row, places.n) : LOST;
    }

    // ---- 2 reading

    public int wide(int w) {
        if (w < 1 || w > MOST_PATHS) {
            return OUTSIDE;
        }
        int before = reader.width;
        reader.width = w;
        return before;
    }

    public int check(long m) {
        if (m < 0 || m > GREATEST_MASK) {
            return OUTSIDE;
        }
        reader.checkMask = m;
        return 1;
    }

    public int read(int k, int lane) {
        if (!isSheet(k)) {
            return faultless(UNKNOWN);
        }
        if (!isLane(lane)) {
            return faultless(OUTSIDE);
        }
        Sheet sheet = sheets[k];
        int flaw = rowFlaw(sheet, lane);
        if (flaw != NO_FAULT) {
            return faulted(flaw);
        }
        reader.readRow(places, sheet.ones(places.n), sheet.lostSigns(places.n));
        return faultless(reader.left);
    }

    public long path(int i) {
        return reader.hasPath(i) ? places.messageIn(reader.rowOf(i)) : LOST;
    }

    public int passed() {
        return reader.hasRead ? reader.firstThatMeetsCheck(places) : STATE;
    }

    public long nearest(int k, int lane, int which) {
        if (!isSheet(k) || !isLane(lane) || !isBit(which) || places.goodCount() > MOST_WALKED_BITS) {
            latestFault = NO_FAULT;
            return LOST;
        }
        Sheet sheet = sheets[k];
        latestFault = rowFlaw(sheet, lane);
        if (latestFault != NO_FAULT) {
            return LOST;
        }
        long ones = sheet.ones(places.n);
        long told = places.allPlaces() & ~sheet.lostSigns(places.n);
        long message = tally.nearestMessage(places, ones, told);
        return which == 0 ? message : Long.bitCount((places.wordOf(message) ^ ones) & told);
    }

    public int send(int k, long message, long lose, long turn) {
        if (!isSheet(k)) {
            return faultless(UNKNOWN);
        }
        if (!places.isMessage(message) || !places.isRow(lose) || !places.isRow(turn)) {
            return faultless(OUTSIDE);
        }
        Sheet sheet = sheets[k];
        if (!sheet.isThere) {
            return faulted(NULL);
        }
        if (sheet.length < places.n) {
            return faulted(INDEX);
        }
        sheet.receive(places.wordOf(message) ^ turn, lose, places.n);
        return faultless(Long.bitCount(lose | turn));
    }

    // ---- 3 counts

    public int count(int w) {
        if (places.goodCount() > MOST_WALKED_BITS) {
            return STATE;
        }
        return w < 0 || w > places.n ? OUTSIDE : tally.wordsWithOnes(places, w);
    }

    public int across(int w) {
        if (places.n > MOST_COUNTED_PLACES) {
            return STATE;
        }
        return w < 0 || w > places.n ? OUTSIDE : tally.rowsAcross(places, w);
    }

    public int fails(int t) {
        if (places.n > MOST_COUNTED_PLACES) {
            return STATE;
        }
        return t < 0 || t > places.n ? OUTSIDE : tally.failingSets(places, t);
    }

    // ---- 4 sheets, parts

    public int sheet(int k, int lane, int n) {
        if (!isSheet(k)) {
            return faultless(UNKNOWN);
        }
        if (!isLane(lane) || n > MOST_CELLS) {
            return faultless(OUTSIDE);
        }
        if (n < 0) {
            return faulted(SIZE);
        }
        sheets[k].begin(lane, n);
        return faultless(1);
    }

    public int lose(int k) {
        if (!isSheet(k)) {
            return UNKNOWN;
        }
        int had = sheets[k].isThere ? 1 : 0;
        sheets[k].isThere = false;
        return had;
    }

    public int put(int k, int i, long v) {
        if (!isSheet(k)) {
            return faultless(UNKNOWN);
        }
        Sheet sheet = sheets[k];
        if (!sheet.isThere) {
            return faulted(NULL);
        }
        if (!sheet.hasCell(i)) {
            return faulted(INDEX);
        }
        sheet.setCell(i, v);
        return faultless(1);
    }

    public long cell(int k, int i, int lane) {
        latestFault = NO_FAULT;
        if (!isSheet(k) || !isLane(lane)) {
            return LOST;
        }
        Sheet sheet = sheets[k];
        latestFault = cellFlaw(sheet, i, lane);
        return latestFault == NO_FAULT ? sheet.cellAt(i) : LOST;
    }

    public int copy(int k, int i, int other, int j, int n) {
        if (!isSheet(k) || !isSheet(other)) {
            return faultless(UNKNOWN);
        }
        Sheet from = sheets[k];
        Sheet to = sheets[other];
        if (!from.isThere || !to.isThere) {
            return faulted(NULL);
        }
        if (from.lane != to.lane) {
            return faulted(CAST);
        }
        if (!from.hasCells(i, n) || !to.hasCells(j, n)) {
            return faulted(INDEX);
        }
        System.arraycopy(from.cells, i, to.cells, j, n);
        return faultless(n);
    }

    public int tell(int place) {
        return places.has(place) ? partOf(place).telling(places, trail, place) : UNKNOWN;
    }

    public int weigh(int place) {
        return places.has(place) ? partOf(place).weighing(places, trail, place) : UNKNOWN;
    }

    public int as(int place, int kind) {
        if (!places.has(place)) {
            return faultless(UNKNOWN);
        }
        if (kind < 0 || kind > 2) {
            return faultless(OUTSIDE);
        }
        return isOfKind(partOf(place), kind) ? faultless(1) : faulted(CAST);
    }

    public int trace() {
        return trail.trace;
    }

    public int fault() {
        return latestFault;
    }

    public int told(int what) {
        switch (what) {
            case 0:
                return places.n;
            case 1:
                return places.goodCount();
            case 2:
                return places.p;
            case 3:
                return places.q;
            case 4:
                return reader.width;
            case 5:
                return reader.hasRead ? reader.left : NONE;
            default:
                return OUTSIDE;
        }
    }

    // ---- what the calls share

    private void forgetWhatRestsOnPlaces() {
        reader.hasRead = false;
        tally.forgetAll();
    }

    private int faulted(int flaw) {
        latestFault = flaw;
        return -10 - flaw;
    }

    private int faultless(int answer) {
        latestFault = NO_FAULT;
        return answer;
    }

    private int rowFlaw(Sheet sheet, int lane) {
        return cellFlaw(sheet, places.n - 1, lane);
    }

    /** A sheet that has nothing is never of a wrong lane, so NULL is looked for ahead of CAST. */
    private static int cellFlaw(Sheet sheet, int i, int lane) {
        if (!sheet.isThere) {
            return NULL;
        }
        if (sheet.lane != lane) {
            return CAST;
        }
        return sheet.hasCell(i) ? NO_FAULT : INDEX;
    }

    private Part partOf(int place) {
        if (!places.isGood(place)) {
            return frozenPart;
        }
        return places.upperNumber(place) == 0 ? bestPart : goodPart;
    }

    private static boolean isOfKind(Part part, int kind) {
        switch (kind) {
            case 0:
                return part instanceof FrozenPart;
            case 1:
                return part instanceof GoodPart;
            default:
                return part instanceof BestPart;
        }
    }

    private static boolean isSheet(int k) {
        return k >= 0 && k < SHEET_COUNT;
    }

    private static boolean isLane(int lane) {
        return lane >= 0 && lane <= 2;
    }

    private static boolean isBit(int bit) {
        return bit == 0 || bit == 1;
    }

    /** Folding halves into halves is the same as summing partners at the distances 1, 2, 4 and so on. */
    private static long folded(long row, int n) {
        long bits = row;
        for (int step = 0; step < FIRST_PARTNERS.length && (1 << step) < n; step++) {
            bits ^= (bits >>> (1 << step)) & FIRST_PARTNERS[step];
        }
        return bits;
    }

    /** The places, which of them are good, what the others are frozen to, and what lines lose. */
    private static final class Places {
        int n = 8;
        int p = 1;
        int q = 2;
        long goodOnes;
        long frozenOnes;
        private final long[] uppers = new long[MOST_PLACES];

        boolean has(int place) {
            return place >= 0 && place < n;
        }

        boolean isGood(int place) {
            return ((goodOnes >>> place) & 1) != 0;
        }

        int frozenBit(int place) {
            return (int) ((frozenOnes >>> place) & 1);
        }

        int goodCount() {
            return Long.bitCount(goodOnes);
        }

        int messageBitOf(int place) {
            return Long.bitCount(goodOnes & ((1L << place) - 1));
        }

        long allPlaces() {
            return (1L << n) - 1;
        }

        boolean isRow(long row) {
            return row >= 0 && row <= allPlaces();
        }

        boolean isMessage(long message) {
            return message >= 0 && message < (1L << goodCount());
        }

        void setAll(long good) {
            goodOnes = good;
            frozenOnes = 0;
        }

        void setGood(int place) {
            goodOnes |= 1L << place;
            frozenOnes &= ~(1L << place);
        }

        void setFrozen(int place, int bit) {
            goodOnes &= ~(1L << place);
            frozenOnes = (frozenOnes & ~(1L << place)) | ((long) bit << place);
        }

        long wordOf(long message) {
            return folded(spread(message) | frozenOnes, n);
        }

        /** A message's bits at the good places; what it has beyond them is left out. */
        long spread(long message) {
            long row = 0;
            long rest = message;
            for (int place = 0; place < n; place++) {
                if (isGood(place)) {
                    row |= (rest & 1) << place;
                    rest >>>= 1;
                }
            }
            return row;
        }

        long messageIn(long row) {
            long message = 0;
            int bit = 0;
            for (int place = 0; place < n; place++) {
                if (isGood(place)) {
                    message |= ((row >>> place) & 1) << bit;
                    bit++;
                }
            }
            return message;
        }

        long lowerNumber() {
            long power = 1;
            for (int i = 0; i < n; i++) {
                power *= q;
                if (power > GREATEST_LOWER) {
                    return LOST;
                }
            }
            return power;
        }

        long upperNumber(int place) {
            return lowerNumber() == LOST ? LOST : upperBelowLimit(place);
        }

        /** Only for a lower number within the limit: above it the squares would not fit. */
        private long upperBelowLimit(int place) {
            long upper = p;
            long below = q;
            for (int half = n / 2; half >= 1; half /= 2) {
                long square = upper * upper;
                upper = (place & half) == 0 ? 2 * upper * below - square : square;
                below *= below;
            }
            return upper;
        }

        /** Only for a lower number within the limit, and k 0 .. n. */
        long takeLeastShares(int k) {
            for (int place = 0; place < n; place++) {
                uppers[place] = upperBelowLimit(place);
            }
            long taken = 0;
            long sum = 0;
            for (int i = 0; i < k; i++) {
                int best = leastBeside(taken);
                taken |= 1L << best;
                sum += uppers[best];
            }
            setAll(taken);
            return sum;
        }

        private int leastBeside(long taken) {
            int best = 0;
            long least = Long.MAX_VALUE;
            for (int place = 0; place < n; place++) {
                if (((taken >>> place) & 1) == 0 && uppers[place] <= least) {
                    best = place;
                    least = uppers[place];
                }
            }
            return best;
        }
    }

    /** Reads a row place by place; each path is the row of bits that it knows. */
    private static final class Reader {
        private static final int BIT_LOST = 2;

        int width = 1;
        long checkMask;
        boolean hasRead;
        int left;
        private long[] paths = new long[MOST_PATHS];
        private long[] nextPaths = new long[MOST_PATHS];
        private long seenOnes;
        private long seenLost;

        boolean hasPath(int i) {
            return hasRead && i >= 0 && i < left;
        }

        long rowOf(int i) {
            return paths[i];
        }

        void readRow(Places places, long ones, long lostSigns) {
            seenOnes = ones;
            seenLost = lostSigns;
            paths[0] = 0;
            left = 1;
            for (int place = 0; place < places.n; place++) {
                int made = places.isGood(place)
                    ? passGood(places.n, place)
                    : passFrozen(places.n, place, places.frozenBit(place));
                turnTo(made);
            }
            hasRead = true;
        }

        private int passGood(int n, int place) {
            int made = 0;
            for (int i = 0; i < left && made < width; i++) {
                int bit = bitTold(n, place, paths[i]);
                if (bit != 1) {
                    nextPaths[made] = paths[i];
                    made++;
                }
                if (bit != 0 && made < width) {
                    nextPaths[made] = paths[i] | (1L << place);
                    made++;
                }
            }
            return made;
        }

        private int passFrozen(int n, int place, int frozenBit) {
            int made = 0;
            for (int i = 0; i < left && made < width; i++) {
                int bit = bitTold(n, place, paths[i]);
                if (bit == BIT_LOST || bit == frozenBit) {
                    nextPaths[made] = paths[i] | ((long) frozenBit << place);
                    made++;
                }
            }
            return made;
        }

        private void turnTo(int made) {
            long[] old = paths;
            paths = nextPaths;
            nextPaths = old;
            left = made;
        }

        /** Goes on in the half that has the place, until one place is left; ones has no bit where lost has one. */
        private int bitTold(int n, int place, long known) {
            long ones = seenOnes;
            long lost = seenLost;
            long knownFromHere = known;
            for (int half = n / 2; half >= 1; half /= 2) {
                long firstHalf = (1L << half) - 1;
                long first = ones & firstHalf;
                long second = ones >>> half;
                long firstLost = lost & firstHalf;
                long secondLost = lost >>> half;
                if ((place & half) == 0) {
                    lost = firstLost | secondLost;
                    ones = (first ^ second) & ~lost;
                } else {
                    long c = folded(knownFromHere & firstHalf, half);
                    lost = firstLost & secondLost;
                    ones = (second | ((first ^ c) & secondLost)) & ~lost;
                    knownFromHere >>>= half;
                }
            }
            return lost != 0 ? BIT_LOST : (int) ones;
        }

        /** The mask is spread once, so that no path's message has to be gathered. */
        int firstThatMeetsCheck(Places places) {
            long rowMask = places.spread(checkMask);
            for (int i = 0; i < left; i++) {
                if ((Long.bitCount(paths[i] & rowMask) & 1) == 0) {
                    return i;
                }
            }
            return NONE;
        }
    }

    /** Counts over all words, rows and sets; kept until the places change, as they are often asked for in turn. */
    private static final class Tally {
        private final int[] words = new int[MOST_PLACES + 1];
        private final int[] rows = new int[MOST_COUNTED_PLACES + 1];
        private final int[] failures = new int[MOST_COUNTED_PLACES + 1];
        private boolean hasWords;
        private boolean hasRows;
        private boolean hasFailures;
        private final long[] stepWords = new long[MOST_PLACES];
        private final int[] plain = new int[MOST_COUNTED_PLACES + 1];
        private final int[] factors = new int[MOST_COUNTED_PLACES + 1];
        private final int[] lostByLost = new int[1 << (MOST_COUNTED_PLACES / 2)];

        void forgetAll() {
            hasWords = false;
            hasRows = false;
            hasFailures = false;
        }

        int wordsWithOnes(Places places, int w) {
            if (!hasWords) {
                countByOnes(places.goodOnes, places.wordOf(0), places.n, words);
                hasWords = true;
            }
            return words[w];
        }

        int rowsAcross(Places places, int w) {
            if (!hasRows) {
                countAcross(places);
                hasRows = true;
            }
            return rows[w];
        }

        int failingSets(Places places, int t) {
            if (!hasFailures) {
                countFailures(places);
                hasFailures = true;
            }
            return failures[t];
        }

        long nearestMessage(Places places, long ones, long told) {
            prepareSteps(places.goodOnes, places.n);
            long word = places.wordOf(0);
            int fewest = Long.bitCount((word ^ ones) & told);
            int nearest = 0;
            int messages = 1 << places.goodCount();
            for (int message = 1; message < messages; message++) {
                word ^= stepWords[Integer.numberOfTrailingZeros(message)];
                int unlike = Long.bitCount((word ^ ones) & told);
                if (unlike < fewest) {
                    fewest = unlike;
                    nearest = message;
                }
            }
            return nearest;
        }

        /**
         * From a message to the next one its lowest bits turn, up to the lowest 0;
         * so one sum with the word of those bits leads from word to word.
         */
        private void prepareSteps(long free, int n) {
            long row = 0;
            int step = 0;
            for (int place = 0; place < n; place++) {
                if (((free >>> place) & 1) != 0) {
                    row |= 1L << place;
                    stepWords[step] = folded(row, n);
                    step++;
                }
            }
        }

        private void countByOnes(long free, long firstWord, int n, int[] byOnes) {
            prepareSteps(free, n);
            Arrays.fill(byOnes, 0);
            long word = firstWord;
            byOnes[Long.bitCount(word)]++;
            int messages = 1 << Long.bitCount(free);
            for (int message = 1; message < messages; message++) {
                word ^= stepWords[Integer.numberOfTrailingZeros(message)];
                byOnes[Long.bitCount(word)]++;
            }
        }

        /**
         * The rows across to the words are, read backwards, the words that have the frozen places,
         * counted from the other end, as good ones. Where those are many, the few words' own counts
         * tell the same (MacWilliams).
         */
        private void countAcross(Places places) {
            int n = places.n;
            if (places.goodCount() * 2 >= n) {
                long frozen = places.allPlaces() & ~places.goodOnes;
                countByOnes(Long.reverse(frozen) >>> (64 - n), 0L, n, rows);
            } else {
                countByOnes(places.goodOnes, 0L, n, plain);
                turnAcross(n, places.goodCount());
            }
        }

        private void turnAcross(int n, int k) {
            Arrays.fill(rows, 0);
            for (int ones = 0; ones <= n; ones++) {
                if (plain[ones] != 0) {
                    multiplyOut(ones, n);
                    for (int w = 0; w <= n; w++) {
                        rows[w] += plain[ones] * factors[w];
                    }
                }
            }
            for (int w = 0; w <= n; w++) {
                rows[w] >>= k;
            }
        }

        /** The factors of (1 - x) to the ones times (1 + x) to the rest of n. */
        private void multiplyOut(int ones, int n) {
            Arrays.fill(factors, 0);
            factors[0] = 1;
            for (int done = 0; done < n; done++) {
                for (int w = done + 1; w >= 1; w--) {
                    factors[w] += done < ones ? -factors[w - 1] : factors[w - 1];
                }
            }
        }

        /**
         * The first half of the places sees lost what either half of the row lost, the second what both
         * lost. So it is enough to go through what either and both lost: each sign that just one half lost
         * may be of the one or the other.
         */
        private void countFailures(Places places) {
            int half = places.n / 2;
            int sets = 1 << half;
            int goodFirst = (int) (places.goodOnes & (sets - 1));
            int goodSecond = (int) (places.goodOnes >>> half);
            for (int lost = 0; lost < sets; lost++) {
                lostByLost[lost] = lostPlaces(lost, half);
            }
            Arrays.fill(failures, 0);
            for (int either = 0; either < sets; either++) {
                boolean firstFails = (lostByLost[either] & goodFirst) != 0;
                int inEither = Integer.bitCount(either);
                int both = either;
                for (int left = 1 << inEither; left > 0; left--) {
                    if (firstFails || (lostByLost[both] & goodSecond) != 0) {
                        int inBoth = Integer.bitCount(both);
                        failures[inEither + inBoth] += 1 << (inEither - inBoth);
                    }
                    both = (both - 1) & either;
                }
            }
        }

        /** At which of n places the bit is lost, with all bits right ahead, when those signs are lost. */
        private static int lostPlaces(int lostSigns, int n) {
            int lost = lostSigns;
            for (int step = FIRST_PARTNERS.length - 1; step >= 0; step--) {
                int half = 1 << step;
                if (half < n) {
                    int first = lost & (int) FIRST_PARTNERS[step];
                    int second = (lost >>> half) & (int) FIRST_PARTNERS[step];
                    lost = first | second | ((first & second) << half);
                }
            }
            return lost;
        }
    }

    /** One sheet; its row is made once and used again, as many new rows may be asked for. */
    private static final class Sheet {
        boolean isThere;
        int lane;
        int length;
        final long[] cells = new long[MOST_CELLS];

        void begin(int newLane, int newLength) {
            isThere = true;
            lane = newLane;
            length = newLength;
            Arrays.fill(cells, 0L);
        }

        boolean hasCell(int i) {
            return i >= 0 && i < length;
        }

        /** Written so that no sum can wrap. */
        boolean hasCells(int from, int n) {
            return from >= 0 && n >= 0 && from <= length && n <= length - from;
        }

        long cellAt(int i) {
            return cells[i];
        }

        void setCell(int i, long v) {
            if (lane == 0) {
                cells[i] = (byte) v;
            } else if (lane == 1) {
                cells[i] = (int) v;
            } else {
                cells[i] = v;
            }
        }

        long ones(int n) {
            long row = 0;
            for (int i = 0; i < n; i++) {
                if (cells[i] == 1) {
                    row |= 1L << i;
                }
            }
            return row;
        }

        long lostSigns(int n) {
            long row = 0;
            for (int i = 0; i < n; i++) {
                if (cells[i] != 0 && cells[i] != 1) {
                    row |= 1L << i;
                }
            }
            return row;
        }

        void receive(long row, long lost, int n) {
            for (int i = 0; i < n; i++) {
                cells[i] = ((lost >>> i) & 1) != 0 ? 2 : (row >>> i) & 1;
            }
        }
    }

    /** Where the bodies of parts leave their numbers. */
    private static final class Trail {
        int trace;

        void leave(int number) {
            trace = 31 * trace + number;
        }
    }

    /** A place as a part; it lends the body by which it is weighed. */
    private abstract static class Part {
        abstract int telling(Places places, Trail trail, int place);

        int weighing(Places places, Trail trail, int place) {
            trail.leave(4);
            return place;
        }
    }

    private static final class FrozenPart extends Part {
        int telling(Places places, Trail trail, int place) {
            trail.leave(1);
            return places.frozenBit(place);
        }
    }

    private static class GoodPart extends Part {
        int telling(Places places, Trail trail, int place) {
            trail.leave(2);
            return place + 10;
        }

        int weighing(Places places, Trail trail, int place) {
            trail.leave(5);
            return places.n - place;
        }
    }

    private static final class BestPart extends GoodPart {
        int telling(Places places, Trail trail, int place) {
            trail.leave(3);
            return 2 * super.telling(places, trail, place);
        }
    }
}
