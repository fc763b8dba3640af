/** The sentences of Terms, part 1, and of the promises 1 to 11 that name a boundary case. */
public final class PlacesBoundaryTest {
    private static final long LOST = PlainLines.LOST;
    private static final int[] SIZES = Made.SIZES;

    public static void main(String[] args) {
        placesReachToNLessOne();
        foldingOfOneBitPlaces();
        foldedTwice();
        sharesOfLines();
        sharesFromTheGreatestBitDown();
        sharesOfNoneAndAllLost();
        sharesAsLongAsTold();
        atFirstAllAreFrozenToZero();
        messagesHaveKBits();
        wordsOfFrozenBits();
        messageBitsRise();
        newObject();
        newObjectHasMaskZero();
        sizeAnswersWhatItWas();
        sizeFreezesAll();
        sizeOfTheSameN();
        sizeKeepsTheRest();
        lineEdges();
        lineKeepsWhatIsRead();
        shareEdges();
        lowerEdges();
        goodTwice();
        goodLetsWhatIsReadGo();
        freezeTwice();
        freezeLetsWhatIsReadGo();
        chooseLetsWhatIsReadGo();
        refusedOnesLetNothingGo();
        chooseNoneAndAll();
        chooseOfTheLeastShares();
        chooseOfLikeShares();
        chooseFreezesTheOthersToZero();
        chooseSumsAreGreat();
        aboutEdges();
        wordEdges();
        foldEdges();
        Due.end();
    }

    private static void placesReachToNLessOne() {
        Due.sentence("Terms 1: N is 2, 4, 8, 16 or 32; PLACES 0 .. N - 1");
        for (int n : SIZES) {
            PlainLines x = Made.ofSize(n);
            Due.is("N", x.told(0), n);
            Due.is("good(0) of " + n, x.good(0), 1);
            Due.is("good(N - 1) of " + n, x.good(n - 1), 1);
            Due.is("good(N) of " + n, x.good(n), -1);
            Due.is("good(-1) of " + n, x.good(-1), -1);
            Due.is("share(N - 1) of " + n, x.share(n - 1), 1);
            Due.is("share(N) of " + n, x.share(n), LOST);
            Due.is("about(N - 1, 0) of " + n, x.about(n - 1, 0), 1);
            Due.is("about(N, 0) of " + n, x.about(n, 0), -1);
            Due.is("freeze(N - 1, 1) of " + n, x.freeze(n - 1, 1), 1);
            Due.is("freeze(N, 1) of " + n, x.freeze(n, 1), -1);
            Due.is("tell(N - 1) of " + n, x.tell(n - 1), 1);
            Due.is("tell(N) of " + n, x.tell(n), -1);
            Due.is("weigh(N - 1) of " + n, x.weigh(n - 1), n - 1);
            Due.is("weigh(N) of " + n, x.weigh(n), -1);
            Due.is("as(N - 1, 0) of " + n, x.as(n - 1, 0), 1);
            Due.is("as(N, 0) of " + n, x.as(n, 0), -1);
        }
    }

    /** A single bit at place i comes to the places whose number has no bit beside those of i. */
    private static long foldOfOne(int place) {
        long row = 0;
        for (int j = 0; j <= place; j++) {
            row |= (j & place) == j ? 1L << j : 0;
        }
        return row;
    }

    private static void foldingOfOneBitPlaces() {
        Due.sentence("Terms 1: FOLDING: of one bit it; else the sums modulo 2 of both, then b folded");
        for (int n : SIZES) {
            PlainLines x = Made.ofSize(n);
            Due.is("fold(0) of " + n, x.fold(0), 0);
            for (int place = 0; place < n; place++) {
                Due.is("fold(2^" + place + ") of " + n, x.fold(1L << place), foldOfOne(place));
            }
            Due.is("fold of all ones, " + n, x.fold((1L << n) - 1), 1L << (n - 1));
        }
    }

    private static void foldedTwice() {
        Due.sentence("Terms 1: Folded twice it is as it was");
        PlainLines small = Made.ofSize(8);
        for (long row = 0; row < 256; row += 3) {
            Due.is("fold(fold(" + row + "))", small.fold(small.fold(row)), row);
        }
        PlainLines great = Made.ofSize(32);
        for (long row : new long[] {1, 1L << 31, 0xFFFFFFFFL, 0xAAAAAAAAL, 0x80000001L, 0x12345678L}) {
            Due.is("fold(fold(" + row + "))", great.fold(great.fold(row)), row);
        }
    }

    private static void sharesOfLines() {
        Due.sentence("Terms 1: EACH LINE loses a sign with share p / q (q 1 .. 8, p 0 .. q; 1 / 2 at first)");
        PlainLines x = Made.ofSize(2);
        Due.is("at first share(0)", x.share(0), 3);
        Due.is("at first share(1)", x.share(1), 1);
        Due.is("at first lower()", x.lower(), 4);
        for (int q = 1; q <= 8; q++) {
            for (int p = 0; p <= q; p++) {
                Due.is("line(" + p + ", " + q + ")", x.line(p, q), 1);
                Due.is("share(0) of " + p + " / " + q, x.share(0), 2 * p * q - p * p);
                Due.is("share(1) of " + p + " / " + q, x.share(1), p * p);
                Due.is("lower() of " + p + " / " + q, x.lower(), q * q);
            }
        }
    }

    private static void sharesFromTheGreatestBitDown() {
        Due.sentence("Terms 1: SHARE: for each bit, from the one for N / 2 down to that for 1");
        PlainLines x = Made.ofSize(4);
        x.line(2, 3);
        // 2/3: with 0 8/9, with 1 4/9; from 8/9: 80/81, 64/81; from 4/9: 56/81, 16/81
        Due.is("share(0)", x.share(0), 80);
        Due.is("share(1)", x.share(1), 64);
        Due.is("share(2)", x.share(2), 56);
        Due.is("share(3)", x.share(3), 16);
    }

    private static void sharesOfNoneAndAllLost() {
        Due.sentence("Terms 1: SHARE where p is 0 and where it is q");
        for (int n : SIZES) {
            PlainLines x = Made.ofSize(n);
            for (int place = 0; place < n; place++) {
                x.line(0, 2);
                Due.is("share(" + place + ") of 0 / 2", x.share(place), 0);
                x.line(2, 2);
                Due.is("share(" + place + ") of 2 / 2", x.share(place), 1L << n);
                x.line(1, 1);
                Due.is("share(" + place + ") of 1 / 1", x.share(place), 1);
            }
        }
    }

    private static void sharesAsLongAsTold() {
        Due.sentence("Terms 1: told by q to the N (only as long as that is 10^15 at most)");
        PlainLines x = Made.ofSize(16);
        x.line(1, 8);
        Due.is("lower() of 8 to the 16", x.lower(), 281474976710656L);
        Due.is("share(15) of 8 to the 16", x.share(15), 1);
        x.size(32);
        for (int q = 3; q <= 8; q++) {
            x.line(0, q);
            Due.is("lower() of " + q + " to the 32", x.lower(), LOST);
            Due.is("share(0) of " + q + " to the 32", x.share(0), LOST);
            Due.is("choose(1) of " + q + " to the 32", x.choose(1), LOST);
        }
        x.line(1, 2);
        Due.is("lower() of 2 to the 32", x.lower(), 1L << 32);
        Due.is("share(0) of 2 to the 32", x.share(0), (1L << 32) - 1);
        Due.is("share(31) of 2 to the 32", x.share(31), 1);
        Due.is("choose(1) of 2 to the 32", x.choose(1), 1);
    }

    private static void atFirstAllAreFrozenToZero() {
        Due.sentence("Terms 1: GOOD, or FROZEN (at first all are FROZEN) to a bit (0 at first)");
        for (int n : SIZES) {
            PlainLines x = Made.ofSize(n);
            Due.is("K of " + n, x.told(1), 0);
            for (int place = 0; place < n; place++) {
                Due.is("about(" + place + ", 0) of " + n, x.about(place, 0), 0);
                Due.is("about(" + place + ", 1) of " + n, x.about(place, 1), 0);
                Due.is("about(" + place + ", 2) of " + n, x.about(place, 2), -9);
            }
        }
    }

    private static void messagesHaveKBits() {
        Due.sentence("Terms 1: K is how many are GOOD. A MESSAGE has K bits");
        PlainLines x = Made.ofSize(32);
        for (int k = 0; k <= 32; k++) {
            Due.is("K", x.told(1), k);
            Due.is("word(0) of " + k + " bits", x.word(0), 0);
            Due.isTrue("word(2^K - 1) of " + k + " bits is told", x.word((1L << k) - 1) != LOST);
            Due.is("word(2^K) of " + k + " bits", x.word(1L << k), LOST);
            x.good(k);
        }
    }

    private static void wordsOfFrozenBits() {
        Due.sentence("Terms 1: A WORD: the MESSAGE's bits at the GOOD PLACES, each FROZEN one its bit");
        for (int n : SIZES) {
            PlainLines x = Made.ofSize(n);
            for (int place = 0; place < n; place++) {
                x.freeze(place, 1);
            }
            Due.is("word(0), all frozen to 1, " + n, x.word(0), 1L << (n - 1));
            Due.is("word(1), all frozen to 1, " + n, x.word(1), LOST);
            x.good(n - 1);
            Due.is("word(1), all others frozen to 1, " + n, x.word(1), 1L << (n - 1));
            Due.is("word(0), all others frozen to 1, " + n, x.word(0), (1L << n) - 1 - (1L << (n - 1)));
        }
    }

    private static void messageBitsRise() {
        Due.sentence("Terms 1: the MESSAGE's bits at the GOOD PLACES, rising");
        PlainLines x = Made.withGood(8, 0b10010010);
        Due.is("word(1): place 1", x.word(1), foldOfOne(1));
        Due.is("word(2): place 4", x.word(2), foldOfOne(4));
        Due.is("word(4): place 7", x.word(4), foldOfOne(7));
        Due.is("word(7)", x.word(7), foldOfOne(1) ^ foldOfOne(4) ^ foldOfOne(7));
    }

    private static void newObject() {
        Due.sentence("Promise 1: A new object");
        PlainLines x = new PlainLines();
        Due.is("fault()", x.fault(), 0);
        Due.isSame("new", Made.lookOf(x), "told 8, 0, 1, 2, 1, -9; places 0 0 0 0 0 0 0 0; passed -3; paths; "
            + "trace 0; sheet 0 nothing; sheet 1 nothing; sheet 2 nothing; sheet 3 nothing");
    }

    /** Each message of a single one would be refused by a mask that has its bit. */
    private static void newObjectHasMaskZero() {
        Due.sentence("Promise 1: CHECK's mask 0");
        PlainLines x = Made.withGood(32, 0xFFFFFFFFL);
        x.sheet(0, 0, 32);
        for (int bit = 0; bit < 32; bit++) {
            x.send(0, 1L << bit, 0, 0);
            Due.is("read of message 2^" + bit, x.read(0, 0), 1);
            Due.is("passed() of message 2^" + bit, x.passed(), 0);
        }
    }

    private static void sizeAnswersWhatItWas() {
        Due.sentence("Promise 2: N becomes n: what it was");
        PlainLines x = new PlainLines();
        int was = 8;
        for (int n : new int[] {2, 4, 32, 16, 16, 8, 2, 32, 2}) {
            Due.is("size(" + n + ")", x.size(n), was);
            Due.is("size(0)", x.size(0), -2);
            Due.is("told(0)", x.told(0), n);
            was = n;
        }
    }

    private static void sizeFreezesAll() {
        Due.sentence("Promise 2: all FROZEN to 0");
        PlainLines x = Made.withGood(32, 0xFFFF0000L);
        for (int place = 0; place < 16; place++) {
            x.freeze(place, 1);
        }
        x.size(2);
        x.size(32);
        Due.is("K", x.told(1), 0);
        for (int place = 0; place < 32; place++) {
            Due.is("about(" + place + ", 1)", x.about(place, 1), 0);
        }
        Due.is("word(0)", x.word(0), 0);
    }

    private static void sizeOfTheSameN() {
        Due.sentence("Promise 2: all FROZEN to 0, what was READ goes, also where N stays");
        PlainLines x = Made.busy();
        Due.is("size(4)", x.size(4), 4);
        Due.is("K", x.told(1), 0);
        Due.is("about(2, 1)", x.about(2, 1), 0);
        Due.is("told(5)", x.told(5), -9);
        Due.is("passed()", x.passed(), -3);
        Due.is("path(0)", x.path(0), LOST);
    }

    private static void sizeKeepsTheRest() {
        Due.sentence("Promise 2: nothing else is other");
        PlainLines x = Made.busy();
        x.size(2);
        Due.is("fault()", x.fault(), 4);
        Due.isSame("behind size(2)", Made.lookOf(x), "told 2, 0, 1, 3, 3, -9; places 0 0; passed -3; paths; trace 1; "
            + "sheet 0 lane 0: 2 3 0 5 6; sheet 1 lane 1: 7 8 9; sheet 2 lane 2: 1 1 0 1; sheet 3 nothing");
        Made.makeGood(x, 0b11);
        Made.fill(x, 3, 0, 1, 0);
        x.read(3, 0);
        Due.is("path(0)", x.path(0), 1);
        Due.is("the mask stays 3: message 1 does not pass", x.passed(), -9);
    }

    private static void lineEdges() {
        Due.sentence("Promise 3: What lines lose becomes p / q: 1. OUTSIDE");
        int[][] edges = {{0, 1}, {1, 1}, {0, 8}, {8, 8}, {7, 8}, {1, 8}};
        int[][] beyond = {{-1, 1}, {2, 1}, {-1, 8}, {9, 8}, {0, 9}, {8, 9}, {0, 0}, {1, 0}};
        for (int[] pq : edges) {
            PlainLines x = new PlainLines();
            Due.is("line(" + pq[0] + ", " + pq[1] + ")", x.line(pq[0], pq[1]), 1);
            for (int[] no : beyond) {
                Due.is("line(" + no[0] + ", " + no[1] + ")", x.line(no[0], no[1]), -2);
            }
            Due.is("p", x.told(2), pq[0]);
            Due.is("q", x.told(3), pq[1]);
        }
    }

    private static void lineKeepsWhatIsRead() {
        Due.sentence("Promise 3: nothing else is other");
        PlainLines x = Made.busy();
        x.line(4, 4);
        Due.is("fault()", x.fault(), 4);
        Due.isSame("behind line(4, 4)", Made.lookOf(x),
            Made.lookOf(Made.busy()).replace("told 4, 2, 1, 3", "told 4, 2, 4, 4"));
    }

    private static void shareEdges() {
        Due.sentence("Promise 4: SHARE: its upper number. LOST: UNKNOWN; STATE");
        PlainLines x = new PlainLines();
        Due.is("share(0)", x.share(0), 255);
        Due.is("share(7)", x.share(7), 1);
        Due.is("share(8)", x.share(8), LOST);
        Due.is("share(-1)", x.share(-1), LOST);
        Due.is("share(MIN)", x.share(Made.MIN), LOST);
        Due.is("share(MAX)", x.share(Made.MAX), LOST);
        x.good(7);
        x.freeze(0, 1);
        Due.is("share of a GOOD one is the same", x.share(7), 1);
        Due.is("share of one FROZEN to 1 is the same", x.share(0), 255);
        x.size(32);
        x.line(8, 8);
        Due.is("share(0) of 8 to the 32", x.share(0), LOST);
        Due.is("share(32) of 8 to the 32", x.share(32), LOST);
    }

    private static void lowerEdges() {
        Due.sentence("Promise 5: q to the N. LOST: STATE: it is above 10^15");
        long[] ofSixteen = {1, 65536, 43046721, 4294967296L, 152587890625L, 2821109907456L, 33232930569601L,
            281474976710656L};
        for (int q = 1; q <= 8; q++) {
            PlainLines x = Made.ofSize(2);
            x.line(q, q);
            Due.is("lower() of " + q + " to the 2", x.lower(), q * q);
            x.size(16);
            Due.is("lower() of " + q + " to the 16", x.lower(), ofSixteen[q - 1]);
            x.size(32);
            Due.is("lower() of " + q + " to the 32", x.lower(), q == 1 ? 1 : q == 2 ? 4294967296L : LOST);
        }
    }

    private static void goodTwice() {
        Due.sentence("Promise 6: A PLACE is GOOD: 1; 0: it was");
        PlainLines x = Made.ofSize(32);
        for (int place = 0; place < 32; place++) {
            Due.is("good(" + place + ")", x.good(place), 1);
            Due.is("good(" + place + ") again", x.good(place), 0);
            Due.is("K", x.told(1), place + 1);
        }
        x.freeze(5, 1);
        Due.is("good(5) of one FROZEN to 1", x.good(5), 1);
        Due.is("about(5, 1)", x.about(5, 1), -9);
        Due.is("word(0): its FROZEN bit is gone", x.word(0), 0);
    }

    private static void nothingIsRead(String behind, PlainLines x) {
        Due.is("told(5) behind " + behind, x.told(5), -9);
        Due.is("path(0) behind " + behind, x.path(0), LOST);
        Due.is("passed() behind " + behind, x.passed(), -3);
    }

    private static void goodLetsWhatIsReadGo() {
        Due.sentence("Promise 6: What was READ goes, also where nothing is other");
        PlainLines x = Made.busy();
        Due.is("good(0)", x.good(0), 1);
        nothingIsRead("good(0)", x);
        PlainLines same = Made.busy();
        Due.is("good(1) that was", same.good(1), 0);
        nothingIsRead("good(1)", same);
    }

    private static void freezeTwice() {
        Due.sentence("Promise 7: A PLACE is FROZEN to a bit: 1; 0: it was so");
        for (int place : new int[] {0, 15, 31}) {
            PlainLines x = Made.ofSize(32);
            Due.is("freeze to 0 at first", x.freeze(place, 0), 0);
            Due.is("freeze to 1", x.freeze(place, 1), 1);
            Due.is("freeze to 1 again", x.freeze(place, 1), 0);
            Due.is("freeze to 2", x.freeze(place, 2), -2);
            Due.is("freeze to -1", x.freeze(place, -1), -2);
            Due.is("about 1", x.about(place, 1), 1);
            Due.is("freeze to 0", x.freeze(place, 0), 1);
            Due.is("about 1", x.about(place, 1), 0);
            Due.is("word(0)", x.word(0), 0);
            Due.is("freeze to 0 again", x.freeze(place, 0), 0);
            x.freeze(place, 1);
            x.good(place);
            Due.is("a GOOD one to 0", x.freeze(place, 0), 1);
            Due.is("about 1", x.about(place, 1), 0);
            Due.is("K", x.told(1), 0);
            x.good(place);
            Due.is("a GOOD one to 1", x.freeze(place, 1), 1);
            Due.is("K", x.told(1), 0);
            Due.is("about 1", x.about(place, 1), 1);
        }
    }

    private static void freezeLetsWhatIsReadGo() {
        Due.sentence("Promise 6, of freeze(): What was READ goes, also where nothing is other");
        PlainLines x = Made.busy();
        Due.is("freeze(1, 0)", x.freeze(1, 0), 1);
        nothingIsRead("freeze(1, 0)", x);
        PlainLines same = Made.busy();
        Due.is("freeze(2, 1) that was so", same.freeze(2, 1), 0);
        nothingIsRead("freeze(2, 1)", same);
    }

    private static void chooseLetsWhatIsReadGo() {
        Due.sentence("Promise 6, of choose(): What was READ goes, also where nothing is other");
        PlainLines x = Made.busy();
        Due.is("choose(4)", x.choose(4), 108);
        nothingIsRead("choose(4)", x);
        PlainLines same = new PlainLines();
        same.choose(4);
        same.sheet(0, 0, 8);
        same.read(0, 0);
        Due.is("told(5)", same.told(5), 1);
        same.choose(4);
        nothingIsRead("choose(4) again", same);
    }

    private static void refusedOnesLetNothingGo() {
        Due.sentence("Promise 6: What was READ goes with those not refused");
        PlainLines x = Made.busy();
        Due.is("good(4)", x.good(4), -1);
        Due.is("freeze(4, 0)", x.freeze(4, 0), -1);
        Due.is("freeze(1, 2)", x.freeze(1, 2), -2);
        Due.is("choose(5)", x.choose(5), LOST);
        Due.is("choose(-1)", x.choose(-1), LOST);
        Due.is("size(5)", x.size(5), -2);
        Due.is("told(5)", x.told(5), 2);
        Due.is("path(1)", x.path(1), 3);
        Due.is("passed()", x.passed(), 1);
        PlainLines great = Made.great();
        Due.is("choose(1) without shares", great.choose(1), LOST);
        Due.is("told(5)", great.told(5), 1);
    }

    private static void goodOnesAre(String behind, PlainLines x, long good) {
        for (int place = 0; place < x.told(0); place++) {
            Due.is("about(" + place + ", 0) behind " + behind, x.about(place, 0), good >> place & 1);
        }
    }

    private static void chooseNoneAndAll() {
        Due.sentence("Promise 8: k is 0 .. N");
        for (int n : SIZES) {
            PlainLines x = Made.ofSize(n);
            Due.is("choose(N) of " + n, x.choose(n), (long) n << (n - 1));
            goodOnesAre("choose(N)", x, (1L << n) - 1);
            Due.is("choose(N + 1) of " + n, x.choose(n + 1), LOST);
            Due.is("choose(-1) of " + n, x.choose(-1), LOST);
            Due.is("choose(MIN) of " + n, x.choose(Made.MIN), LOST);
            Due.is("choose(MAX) of " + n, x.choose(Made.MAX), LOST);
            Due.is("K of " + n, x.told(1), n);
            Due.is("choose(0) of " + n, x.choose(0), 0);
            goodOnesAre("choose(0)", x, 0);
            Due.is("choose(1) of " + n, x.choose(1), 1);
            goodOnesAre("choose(1)", x, 1L << (n - 1));
        }
    }

    /** The shares are 255, 225, 207, 81, 175, 49, 31 and 1. */
    private static void chooseOfTheLeastShares() {
        Due.sentence("Promise 8: The k PLACES with the least SHARES are GOOD");
        long[] good = {0, 0b10000000, 0b11000000, 0b11100000, 0b11101000, 0b11111000, 0b11111100, 0b11111110, 0xFF};
        long[] sums = {0, 1, 32, 81, 162, 337, 544, 769, 1024};
        for (int k = 0; k <= 8; k++) {
            PlainLines x = new PlainLines();
            Due.is("choose(" + k + ")", x.choose(k), sums[k]);
            goodOnesAre("choose(" + k + ")", x, good[k]);
        }
    }

    private static void chooseOfLikeShares() {
        Due.sentence("Promise 8: of like ones those of greater number");
        for (int n : SIZES) {
            PlainLines x = Made.ofSize(n);
            x.line(0, 2);
            Due.is("choose(N / 2) of 0 / 2", x.choose(n / 2), 0);
            goodOnesAre("choose of 0 / 2", x, ((1L << n) - 1) & -(1L << (n / 2)));
            x.line(1, 1);
            Due.is("choose(1) of 1 / 1", x.choose(1), 1);
            goodOnesAre("choose of 1 / 1", x, 1L << (n - 1));
        }
    }

    private static void chooseFreezesTheOthersToZero() {
        Due.sentence("Promise 8: all others FROZEN to 0");
        PlainLines x = Made.withGood(8, 0b00001111);
        x.freeze(4, 1);
        x.freeze(7, 1);
        Due.is("choose(2)", x.choose(2), 1 + 31);
        goodOnesAre("choose(2)", x, 0b11000000);
        for (int place = 0; place < 6; place++) {
            Due.is("about(" + place + ", 1)", x.about(place, 1), 0);
        }
        x.freeze(0, 1);
        x.choose(0);
        Due.is("about(0, 1) behind choose(0)", x.about(0, 1), 0);
        x.freeze(7, 1);
        x.choose(8);
        Due.is("word(0) behind choose(8)", x.word(0), 0);
    }

    /** The shares of the two places that come of one are, together, twice that one's. */
    private static void chooseSumsAreGreat() {
        Due.sentence("Promise 8: the sum of their SHARES' upper numbers, where q to the N is great");
        PlainLines x = Made.ofSize(16);
        for (int p = 0; p <= 8; p++) {
            x.line(p, 8);
            Due.is("choose(16) of " + p + " / 8", x.choose(16), 16L * p * (1L << 45));
        }
        x.line(6, 7);
        Due.is("choose(16) of 6 / 7", x.choose(16), 16L * 6 * 4747561509943L);
    }

    private static void aboutEdges() {
        Due.sentence("Promise 9: 0 whether it is GOOD, 1 the bit (NONE), 2 which MESSAGE bit (NONE)");
        PlainLines x = Made.withGood(32, 0x80000001L);
        x.freeze(30, 1);
        int[][] due = {{0, 1, -9, 0}, {1, 0, 0, -9}, {30, 0, 1, -9}, {31, 1, -9, 1}};
        for (int[] row : due) {
            for (int what = 0; what <= 2; what++) {
                Due.is("about(" + row[0] + ", " + what + ")", x.about(row[0], what), row[what + 1]);
            }
            Due.is("about(" + row[0] + ", 3)", x.about(row[0], 3), -2);
            Due.is("about(" + row[0] + ", -1)", x.about(row[0], -1), -2);
        }
        Due.is("about(32, 0)", x.about(32, 0), -1);
        Due.is("about(-1, 2)", x.about(-1, 2), -1);
        Made.makeGood(x, 0xFFFFFFFFL);
        Due.is("about(31, 2), all good", x.about(31, 2), 31);
    }

    private static void wordEdges() {
        Due.sentence("Promise 10: LOST: OUTSIDE: it is not 0 .. 2^K - 1 (its lowest bit is the first)");
        PlainLines none = new PlainLines();
        Due.is("word(0), K 0", none.word(0), 0);
        Due.is("word(1), K 0", none.word(1), LOST);
        Due.is("word(-1), K 0", none.word(-1), LOST);
        PlainLines all = Made.withGood(32, 0xFFFFFFFFL);
        Due.is("word(2^32 - 1), K 32", all.word(0xFFFFFFFFL), 1L << 31);
        Due.is("word(2^32), K 32", all.word(1L << 32), LOST);
        Due.is("word(-1), K 32", all.word(-1), LOST);
        Due.is("word(MIN), K 32", all.word(Long.MIN_VALUE), LOST);
        Due.is("word(MAX), K 32", all.word(Long.MAX_VALUE), LOST);
        Due.is("word(1): place 0", all.word(1), 1);
        Due.is("word(2^31): place 31", all.word(1L << 31), 0xFFFFFFFFL);
    }

    private static void foldEdges() {
        Due.sentence("Promise 11: LOST: OUTSIDE: it is not 0 .. 2^N - 1");
        for (int n : SIZES) {
            PlainLines x = Made.ofSize(n);
            Due.is("fold(2^N - 1) of " + n, x.fold((1L << n) - 1), 1L << (n - 1));
            Due.is("fold(2^N) of " + n, x.fold(1L << n), LOST);
            Due.is("fold(-1) of " + n, x.fold(-1), LOST);
            Due.is("fold(MIN) of " + n, x.fold(Long.MIN_VALUE), LOST);
            Due.is("fold(MAX) of " + n, x.fold(Long.MAX_VALUE), LOST);
            x.freeze(0, 1);
            x.good(1);
            Due.is("fold(0) looks at no PLACE, " + n, x.fold(0), 0);
        }
    }
}
