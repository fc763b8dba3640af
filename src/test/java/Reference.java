/**
 * The document's words followed step by step, with rows of ints and recursion and nothing kept;
 * slow, and built in another way than PlainLines, so that both are unlikely to err alike.
 */
final class Reference {
    static final int UNKNOWN = -1, OUTSIDE = -2, STATE = -3, NONE = -9;
    static final long LOST = Long.MIN_VALUE;
    private static final int GONE = 2;

    private int n = 8;
    private int p = 1;
    private int q = 2;
    private boolean[] isGood = new boolean[8];
    private int[] frozenTo = new int[8];
    private int w = 1;
    private long mask = 0;
    private java.util.ArrayList<int[]> paths = null;
    private final long[][] rows = new long[4][];
    private final int[] lanes = new int[4];
    private int trace = 0;
    private int fault = 0;

    int size(int size) {
        if (!java.util.List.of(2, 4, 8, 16, 32).contains(size)) {
            return OUTSIDE;
        }
        int was = n;
        n = size;
        isGood = new boolean[n];
        frozenTo = new int[n];
        paths = null;
        return was;
    }

    int line(int upper, int lower) {
        if (lower < 1 || lower > 8 || upper < 0 || upper > lower) {
            return OUTSIDE;
        }
        p = upper;
        q = lower;
        return 1;
    }

    private java.math.BigInteger power() {
        return java.math.BigInteger.valueOf(q).pow(n);
    }

    private boolean sharesAreTold() {
        return power().compareTo(java.math.BigInteger.TEN.pow(15)) <= 0;
    }

    private boolean isPlace(int place) {
        return place >= 0 && place < n;
    }

    long share(int place) {
        if (!isPlace(place) || !sharesAreTold()) {
            return LOST;
        }
        java.math.BigInteger upper = java.math.BigInteger.valueOf(p);
        java.math.BigInteger lower = java.math.BigInteger.valueOf(q);
        for (int bit = n / 2; bit > 0; bit /= 2) {
            java.math.BigInteger square = upper.multiply(upper);
            upper = (place & bit) != 0 ? square : upper.multiply(lower).shiftLeft(1).subtract(square);
            lower = lower.multiply(lower);
        }
        return upper.longValueExact();
    }

    long lower() {
        return sharesAreTold() ? power().longValueExact() : LOST;
    }

    int good(int place) {
        if (!isPlace(place)) {
            return UNKNOWN;
        }
        paths = null;
        boolean was = isGood[place];
        isGood[place] = true;
        return was ? 0 : 1;
    }

    int freeze(int place, int bit) {
        if (!isPlace(place)) {
            return UNKNOWN;
        }
        if (bit < 0 || bit > 1) {
            return OUTSIDE;
        }
        paths = null;
        boolean was = !isGood[place] && frozenTo[place] == bit;
        isGood[place] = false;
        frozenTo[place] = bit;
        return was ? 0 : 1;
    }

    long choose(int k) {
        if (k < 0 || k > n || !sharesAreTold()) {
            return LOST;
        }
        java.util.ArrayList<Integer> order = new java.util.ArrayList<>();
        for (int place = n - 1; place >= 0; place--) {
            order.add(place);
        }
        order.sort((a, b) -> Long.compare(share(a), share(b)));
        isGood = new boolean[n];
        frozenTo = new int[n];
        paths = null;
        long sum = 0;
        for (int i = 0; i < k; i++) {
            isGood[order.get(i)] = true;
            sum += share(order.get(i));
        }
        return sum;
    }

    private int goodAheadOf(int place) {
        int ahead = 0;
        for (int i = 0; i < place; i++) {
            ahead += isGood[i] ? 1 : 0;
        }
        return ahead;
    }

    private int k() {
        return goodAheadOf(n);
    }

    int about(int place, int what) {
        if (!isPlace(place)) {
            return UNKNOWN;
        }
        if (what < 0 || what > 2) {
            return OUTSIDE;
        }
        if (what == 0) {
            return isGood[place] ? 1 : 0;
        }
        if (what == 1) {
            return isGood[place] ? NONE : frozenTo[place];
        }
        return isGood[place] ? goodAheadOf(place) : NONE;
    }

    private static int[] foldedRow(int[] row) {
        if (row.length == 1) {
            return row.clone();
        }
        int half = row.length / 2;
        int[] a = foldedRow(java.util.Arrays.copyOfRange(row, 0, half));
        int[] b = foldedRow(java.util.Arrays.copyOfRange(row, half, row.length));
        int[] folded = new int[row.length];
        for (int i = 0; i < half; i++) {
            folded[i] = (a[i] + b[i]) % 2;
            folded[half + i] = b[i];
        }
        return folded;
    }

    private int[] bitsOf(long row) {
        int[] bits = new int[n];
        for (int i = 0; i < n; i++) {
            bits[i] = (int) (row >> i & 1);
        }
        return bits;
    }

    private static long numberOf(int[] bits) {
        long number = 0;
        for (int i = bits.length - 1; i >= 0; i--) {
            number = 2 * number + bits[i];
        }
        return number;
    }

    private int[] rowOf(long message) {
        int[] row = new int[n];
        for (int place = 0; place < n; place++) {
            row[place] = isGood[place] ? (int) (message >> goodAheadOf(place) & 1) : frozenTo[place];
        }
        return row;
    }

    private boolean isBits(long number, int bits) {
        return number >= 0 && number < 1L << bits;
    }

    long word(long message) {
        return isBits(message, k()) ? numberOf(foldedRow(rowOf(message))) : LOST;
    }

    long fold(long row) {
        return isBits(row, n) ? numberOf(foldedRow(bitsOf(row))) : LOST;
    }

    int wide(int width) {
        if (width < 1 || width > 64) {
            return OUTSIDE;
        }
        int was = w;
        w = width;
        return was;
    }

    int check(long m) {
        if (m < 0 || m >= 4294967296L) {
            return OUTSIDE;
        }
        mask = m;
        return 1;
    }

    private int refuse(int answer) {
        fault = 0;
        return answer;
    }

    private int fail(int number) {
        fault = number;
        return -10 - number;
    }

    private static boolean isSheet(int k) {
        return k >= 0 && k <= 3;
    }

    private static boolean isLane(int lane) {
        return lane >= 0 && lane <= 2;
    }

    private int rowFault(int k, int lane, int cells) {
        if (rows[k] != null && lanes[k] != lane) {
            return 2;
        }
        if (rows[k] == null) {
            return 1;
        }
        return rows[k].length < cells ? 3 : 0;
    }

    private int[] seenIn(int k) {
        int[] seen = new int[n];
        for (int i = 0; i < n; i++) {
            seen[i] = rows[k][i] == 0 ? 0 : rows[k][i] == 1 ? 1 : GONE;
        }
        return seen;
    }

    private static int theBit(int[] seen, int place, int[] known) {
        if (seen.length == 1) {
            return seen[0];
        }
        int half = seen.length / 2;
        int[] on = new int[half];
        if (place < half) {
            for (int i = 0; i < half; i++) {
                boolean gone = seen[i] == GONE || seen[i + half] == GONE;
                on[i] = gone ? GONE : (seen[i] + seen[i + half]) % 2;
            }
            return theBit(on, place, known);
        }
        int[] c = foldedRow(java.util.Arrays.copyOfRange(known, 0, half));
        for (int i = 0; i < half; i++) {
            if (seen[i + half] != GONE) {
                on[i] = seen[i + half];
            } else {
                on[i] = seen[i] == GONE ? GONE : (seen[i] + c[i]) % 2;
            }
        }
        return theBit(on, place - half, java.util.Arrays.copyOfRange(known, half, known.length));
    }

    int read(int k, int lane) {
        if (!isSheet(k)) {
            return refuse(UNKNOWN);
        }
        if (!isLane(lane)) {
            return refuse(OUTSIDE);
        }
        if (rowFault(k, lane, n) != 0) {
            return fail(rowFault(k, lane, n));
        }
        paths = new java.util.ArrayList<>();
        paths.add(new int[n]);
        int[] seen = seenIn(k);
        for (int place = 0; place < n; place++) {
            java.util.ArrayList<int[]> next = new java.util.ArrayList<>();
            for (int[] path : paths) {
                goOn(path, place, theBit(seen, place, path), next);
            }
            paths = new java.util.ArrayList<>(next.subList(0, Math.min(w, next.size())));
        }
        return refuse(paths.size());
    }

    private void goOn(int[] path, int place, int bit, java.util.ArrayList<int[]> next) {
        for (int value = 0; value <= 1; value++) {
            boolean fits = bit == GONE || bit == value;
            if (fits && (isGood[place] || frozenTo[place] == value)) {
                int[] longer = path.clone();
                longer[place] = value;
                next.add(longer);
            }
        }
    }

    long path(int i) {
        if (paths == null || i < 0 || i >= paths.size()) {
            return LOST;
        }
        long message = 0;
        for (int place = 0; place < n; place++) {
            if (isGood[place] && paths.get(i)[place] == 1) {
                message += 1L << goodAheadOf(place);
            }
        }
        return message;
    }

    int passed() {
        if (paths == null) {
            return STATE;
        }
        for (int i = 0; i < paths.size(); i++) {
            if (Long.bitCount(path(i) & mask) % 2 == 0) {
                return i;
            }
        }
        return NONE;
    }

    long nearest(int k, int lane, int which) {
        fault = 0;
        if (!isSheet(k) || !isLane(lane) || which < 0 || which > 1 || k() > 12) {
            return LOST;
        }
        fault = rowFault(k, lane, n);
        if (fault != 0) {
            return LOST;
        }
        int[] seen = seenIn(k);
        long best = 0;
        int fewest = n + 1;
        for (long message = 0; message < 1L << k(); message++) {
            int[] word = foldedRow(rowOf(message));
            int unlike = 0;
            for (int i = 0; i < n; i++) {
                unlike += seen[i] != GONE && seen[i] != word[i] ? 1 : 0;
            }
            if (unlike < fewest) {
                fewest = unlike;
                best = message;
            }
        }
        return which == 0 ? best : fewest;
    }

    int send(int k, long message, long lose, long turn) {
        if (!isSheet(k)) {
            return refuse(UNKNOWN);
        }
        if (!isBits(message, k()) || !isBits(lose, n) || !isBits(turn, n)) {
            return refuse(OUTSIDE);
        }
        if (rows[k] == null) {
            return fail(1);
        }
        if (rows[k].length < n) {
            return fail(3);
        }
        int[] word = foldedRow(rowOf(message));
        int touched = 0;
        for (int i = 0; i < n; i++) {
            boolean lost = (lose >> i & 1) == 1;
            boolean turned = (turn >> i & 1) == 1;
            rows[k][i] = lost ? 2 : turned ? 1 - word[i] : word[i];
            touched += lost || turned ? 1 : 0;
        }
        return refuse(touched);
    }

    int count(int ones) {
        if (k() > 12) {
            return STATE;
        }
        if (ones < 0 || ones > n) {
            return OUTSIDE;
        }
        int count = 0;
        for (long message = 0; message < 1L << k(); message++) {
            count += Long.bitCount(word(message)) == ones ? 1 : 0;
        }
        return count;
    }

    /** Differences are sums of those with one message bit, and so are the products with them. */
    int across(int ones) {
        if (n == 32) {
            return STATE;
        }
        if (ones < 0 || ones > n) {
            return OUTSIDE;
        }
        long[] differences = new long[k()];
        for (int bit = 0; bit < k(); bit++) {
            differences[bit] = word(1L << bit) ^ word(0);
        }
        int count = 0;
        for (long row = 0; row < 1L << n; row++) {
            boolean isAcross = Long.bitCount(row) == ones;
            for (int bit = 0; isAcross && bit < differences.length; bit++) {
                isAcross = Long.bitCount(row & differences[bit]) % 2 == 0;
            }
            count += isAcross ? 1 : 0;
        }
        return count;
    }

    int fails(int t) {
        if (n == 32) {
            return STATE;
        }
        if (t < 0 || t > n) {
            return OUTSIDE;
        }
        int[] right = rowOf(0);
        int[] word = foldedRow(right);
        int count = 0;
        for (long set = 0; set < 1L << n; set++) {
            if (Long.bitCount(set) == t) {
                count += comesToALostBit(set, word, right) ? 1 : 0;
            }
        }
        return count;
    }

    private boolean comesToALostBit(long set, int[] word, int[] right) {
        int[] seen = new int[n];
        for (int i = 0; i < n; i++) {
            seen[i] = (set >> i & 1) == 1 ? GONE : word[i];
        }
        for (int place = 0; place < n; place++) {
            if (isGood[place] && theBit(seen, place, right) == GONE) {
                return true;
            }
        }
        return false;
    }

    int sheet(int k, int lane, int cells) {
        if (!isSheet(k)) {
            return refuse(UNKNOWN);
        }
        if (!isLane(lane) || cells > 40) {
            return refuse(OUTSIDE);
        }
        if (cells < 0) {
            return fail(4);
        }
        rows[k] = new long[cells];
        lanes[k] = lane;
        return refuse(1);
    }

    int lose(int k) {
        if (!isSheet(k)) {
            return UNKNOWN;
        }
        int had = rows[k] == null ? 0 : 1;
        rows[k] = null;
        return had;
    }

    int put(int k, int i, long v) {
        if (!isSheet(k)) {
            return refuse(UNKNOWN);
        }
        if (rows[k] == null) {
            return fail(1);
        }
        if (i < 0 || i >= rows[k].length) {
            return fail(3);
        }
        rows[k][i] = new long[] {(byte) v, (int) v, v}[lanes[k]];
        return refuse(1);
    }

    long cell(int k, int i, int lane) {
        fault = 0;
        if (!isSheet(k) || !isLane(lane)) {
            return LOST;
        }
        fault = rowFault(k, lane, 0);
        if (fault == 0 && (i < 0 || i >= rows[k].length)) {
            fault = 3;
        }
        return fault == 0 ? rows[k][i] : LOST;
    }

    int copy(int k, int i, int other, int j, int cells) {
        if (!isSheet(k) || !isSheet(other)) {
            return refuse(UNKNOWN);
        }
        if (rows[k] == null || rows[other] == null) {
            return fail(1);
        }
        if (lanes[k] != lanes[other]) {
            return fail(2);
        }
        boolean below = i < 0 || j < 0 || cells < 0;
        if (below || (long) i + cells > rows[k].length || (long) j + cells > rows[other].length) {
            return fail(3);
        }
        long[] were = rows[k].clone();
        for (int c = 0; c < cells; c++) {
            rows[other][j + c] = were[i + c];
        }
        return refuse(cells);
    }

    private void leave(int number) {
        trace = trace * 31 + number;
    }

    private boolean isBest(int place) {
        return isGood[place] && share(place) == 0;
    }

    int tell(int place) {
        if (!isPlace(place)) {
            return UNKNOWN;
        }
        if (!isGood[place]) {
            leave(1);
            return frozenTo[place];
        }
        int times = 1;
        if (isBest(place)) {
            leave(3);
            times = 2;
        }
        leave(2);
        return times * (place + 10);
    }

    int weigh(int place) {
        if (!isPlace(place)) {
            return UNKNOWN;
        }
        leave(isGood[place] ? 5 : 4);
        return isGood[place] ? n - place : place;
    }

    int as(int place, int kind) {
        if (!isPlace(place)) {
            return refuse(UNKNOWN);
        }
        if (kind < 0 || kind > 2) {
            return refuse(OUTSIDE);
        }
        boolean[] is = {!isGood[place], isGood[place], isBest(place)};
        return is[kind] ? refuse(1) : fail(2);
    }

    int trace() {
        return trace;
    }

    int fault() {
        return fault;
    }

    int told(int what) {
        if (what < 0 || what > 5) {
            return OUTSIDE;
        }
        return new int[] {n, k(), p, q, w, paths == null ? NONE : paths.size()}[what];
    }
}
