import java.util.Random;

/** Runs of calls, always the same ones, on PlainLines and on Reference. */
public final class ReferenceTest {
    private static final int[] SIZES = {2, 4, 8, 16, 32};
    /** A mixed call is three calls at most on the object, which is used for 512 at most. */
    private static final int MIXED_CALLS = 170;

    private final Random random;
    private final int run;
    private final PlainLines x = new PlainLines();
    private final Reference y = new Reference();

    private ReferenceTest(int run) {
        this.run = run;
        random = new Random(run);
    }

    public static void main(String[] args) {
        for (int run = 0; run < 1200 && Due.allRight(); run++) {
            new ReferenceTest(run).mixedCalls();
        }
        for (int run = 1200; run < 1400 && Due.allRight(); run++) {
            new ReferenceTest(run).wordsSentAndRead();
        }
        for (int run = 1400; run < 1800 && Due.allRight(); run++) {
            new ReferenceTest(run).allCounts(SIZES[run % 3]);
        }
        for (int run = 1800; run < 1817 && Due.allRight(); run++) {
            new ReferenceTest(run).countsOfSixteen(run - 1800);
        }
        Due.end();
    }

    private void due(String call, long got, long want) {
        Due.is("run " + run + ": " + call, got, want);
    }

    /** Mostly a number of the range, now and then one just or far beyond it. */
    private int near(int from, int to) {
        switch (random.nextInt(24)) {
            case 0:
                return from - 1;
            case 1:
                return to + 1;
            case 2:
                return random.nextBoolean() ? Integer.MIN_VALUE : Integer.MAX_VALUE;
            default:
                return from + random.nextInt(to - from + 1);
        }
    }

    private long nearBits(int bits) {
        switch (random.nextInt(24)) {
            case 0:
                return -1;
            case 1:
                return 1L << bits;
            case 2:
                return random.nextLong();
            default:
                return random.nextLong() & ((1L << bits) - 1);
        }
    }

    private int size() {
        return random.nextInt(12) == 0 ? near(0, 40) : SIZES[random.nextInt(SIZES.length)];
    }

    private void mixedCalls() {
        for (int call = 0; call < MIXED_CALLS; call++) {
            int kind = random.nextInt(100);
            if (kind < 30) {
                placeCall();
            } else if (kind < 60) {
                readingCall();
            } else if (kind < 70) {
                countCall();
            } else {
                sheetCall();
            }
        }
    }

    private void placeCall() {
        int n = y.told(0);
        int place = near(0, n - 1);
        int a = near(0, 2);
        long bits = nearBits(n);
        switch (random.nextInt(14)) {
            case 0: {
                int size = random.nextInt(3) == 0 ? size() : n;
                if (size == n && random.nextBoolean()) {
                    break;
                }
                due("size " + size, x.size(size), y.size(size));
                break;
            }
            case 1: {
                int q = near(1, 8);
                int p = near(0, Math.max(0, Math.min(q, 8)));
                due("line " + p + " " + q, x.line(p, q), y.line(p, q));
                break;
            }
            case 2:
                due("share " + place, x.share(place), y.share(place));
                break;
            case 3:
                due("lower", x.lower(), y.lower());
                break;
            case 4: case 5:
                due("good " + place, x.good(place), y.good(place));
                break;
            case 6: case 7:
                due("freeze " + place + " " + a, x.freeze(place, a), y.freeze(place, a));
                break;
            case 8: {
                int k = near(0, n);
                due("choose " + k, x.choose(k), y.choose(k));
                break;
            }
            case 9: case 10:
                due("about " + place + " " + a, x.about(place, a), y.about(place, a));
                break;
            case 11: case 12: {
                long message = nearBits(y.told(1));
                due("word " + message, x.word(message), y.word(message));
                break;
            }
            default:
                due("fold " + bits, x.fold(bits), y.fold(bits));
        }
    }

    private void readingCall() {
        int k = near(0, 3);
        int lane = near(0, 2);
        switch (random.nextInt(12)) {
            case 0: {
                int w = near(1, 64);
                due("wide " + w, x.wide(w), y.wide(w));
                break;
            }
            case 1: {
                long m = random.nextBoolean() ? nearBits(32) : nearBits(4);
                due("check " + m, x.check(m), y.check(m));
                break;
            }
            case 2: case 3: case 4:
                due("read " + k + " " + lane, x.read(k, lane), y.read(k, lane));
                break;
            case 5: case 6: {
                int i = near(0, Math.max(0, y.told(5)));
                due("path " + i, x.path(i), y.path(i));
                break;
            }
            case 7: case 8:
                due("passed", x.passed(), y.passed());
                break;
            case 9:
                if (y.told(1) <= 8 || y.told(1) > 12) {
                    int which = near(0, 1);
                    due("nearest", x.nearest(k, lane, which), y.nearest(k, lane, which));
                }
                break;
            default:
                sendCall(k);
        }
    }

    private void sendCall(int k) {
        long message = nearBits(y.told(1));
        long lose = nearBits(y.told(0));
        long turn = random.nextInt(3) == 0 ? nearBits(y.told(0)) : 0;
        due("send " + k + " " + message + " " + lose + " " + turn,
            x.send(k, message, lose, turn), y.send(k, message, lose, turn));
    }

    /** With many places the slow counts are asked for seldom. */
    private void countCall() {
        int n = y.told(0);
        int w = near(0, n);
        boolean cheap = n <= 8 || n == 32 || random.nextInt(50) == 0;
        if (random.nextInt(3) == 0 && (y.told(1) <= 8 || y.told(1) > 12)) {
            due("count " + w, x.count(w), y.count(w));
        } else if (cheap && random.nextBoolean()) {
            due("across " + w, x.across(w), y.across(w));
        } else if (cheap) {
            due("fails " + w, x.fails(w), y.fails(w));
        }
    }

    private void sheetCall() {
        int k = near(0, 3);
        int other = near(0, 3);
        int lane = near(0, 2);
        int n = y.told(0);
        int i = near(0, n);
        int place = near(0, n - 1);
        switch (random.nextInt(14)) {
            case 0: case 1: {
                int cells = random.nextBoolean() ? Math.min(40, n + random.nextInt(3)) : near(0, 40);
                due("sheet " + k + " " + lane + " " + cells, x.sheet(k, lane, cells), y.sheet(k, lane, cells));
                break;
            }
            case 2:
                if (random.nextInt(4) == 0) {
                    due("lose " + k, x.lose(k), y.lose(k));
                }
                break;
            case 3: case 4: {
                long v = random.nextInt(3) == 0 ? random.nextLong() : near(0, 2);
                due("put " + k + " " + i + " " + v, x.put(k, i, v), y.put(k, i, v));
                break;
            }
            case 5: case 6: case 7:
                due("cell " + k + " " + i + " " + lane, x.cell(k, i, lane), y.cell(k, i, lane));
                break;
            case 8: case 9: {
                int j = near(0, n);
                int cells = near(0, 1 + n / 2);
                due("copy " + k + " " + i + " " + other + " " + j + " " + cells,
                    x.copy(k, i, other, j, cells), y.copy(k, i, other, j, cells));
                break;
            }
            case 10:
                due("tell " + place, x.tell(place), y.tell(place));
                break;
            case 11:
                due("weigh " + place, x.weigh(place), y.weigh(place));
                break;
            case 12:
                due("as " + place + " " + lane, x.as(place, lane), y.as(place, lane));
                break;
            default: {
                int what = near(0, 5);
                due("told " + what, x.told(what), y.told(what));
            }
        }
        due("trace", x.trace(), y.trace());
        due("fault", x.fault(), y.fault());
    }

    /** Any good places and frozen bits, words with many lost signs, and every path compared. */
    private void wordsSentAndRead() {
        int n = SIZES[random.nextInt(SIZES.length)];
        due("size", x.size(n), y.size(n));
        due("sheet", x.sheet(0, 2, n), y.sheet(0, 2, n));
        for (int round = 0; round < 4; round++) {
            anyPlaces(n);
            int w = 1 + random.nextInt(64);
            due("wide " + w, x.wide(w), y.wide(w));
            long message = random.nextLong() & ((1L << y.told(1)) - 1);
            long all = (1L << n) - 1;
            long lose = random.nextLong() & all & (random.nextBoolean() ? random.nextLong() : all);
            long turn = random.nextInt(4) == 0 ? 1L << random.nextInt(n) : 0;
            due("send", x.send(0, message, lose, turn), y.send(0, message, lose, turn));
            due("read", x.read(0, 2), y.read(0, 2));
            for (int i = 0; i <= y.told(5); i++) {
                due("path " + i, x.path(i), y.path(i));
            }
            long mask = random.nextLong() & 0xFFFFFFFFL;
            due("check", x.check(mask), y.check(mask));
            due("passed", x.passed(), y.passed());
        }
    }

    private void anyPlaces(int n) {
        for (int place = 0; place < n; place++) {
            if (random.nextBoolean()) {
                due("good " + place, x.good(place), y.good(place));
            } else {
                int bit = random.nextInt(2);
                due("freeze " + place, x.freeze(place, bit), y.freeze(place, bit));
            }
        }
    }

    private void allCounts(int n) {
        due("size", x.size(n), y.size(n));
        anyPlaces(n);
        for (int w = -1; w <= n + 1; w++) {
            due("count " + w, x.count(w), y.count(w));
            due("across " + w, x.across(w), y.across(w));
            due("fails " + w, x.fails(w), y.fails(w));
        }
    }

    private void countsOfSixteen(int k) {
        due("size", x.size(16), y.size(16));
        while (y.told(1) < k) {
            int place = random.nextInt(16);
            due("good " + place, x.good(place), y.good(place));
        }
        for (int w = 0; w <= 16; w += 1 + random.nextInt(2)) {
            due("across " + w, x.across(w), y.across(w));
            due("fails " + w, x.fails(w), y.fails(w));
        }
        int w = 8;
        due("count " + w, x.count(w), y.count(w));
    }
}
