/** The sentences of Terms, part 3 (counts), and of the promises 19 to 21 that name a boundary case. */
public final class CountsBoundaryTest {
    private static final int[] COUNTED_SIZES = {2, 4, 8, 16};

    public static void main(String[] args) {
        countOfNoGoodPlace();
        countOfAllGoodPlaces();
        countOfTwelveBits();
        countOfThirteenBits();
        countEdgesOfW();
        countOfFrozenOnes();
        acrossToNoGoodPlace();
        acrossToAllGoodPlaces();
        acrossOfEachK();
        acrossLooksAtDifferences();
        acrossOfThirtyTwoPlaces();
        acrossEdgesOfW();
        failsOfNoGoodPlace();
        failsOfTheFirstAndTheLastPlace();
        failsOfNoneAndAllLost();
        failsOfAllGoodPlaces();
        failsWithAllBitsRight();
        failsOfThirtyTwoPlaces();
        failsEdgesOfT();
        countsFollowEachChange();
        countsLookAtPlacesAlone();
        Due.end();
    }

    private static long all(int n) {
        return (1L << n) - 1;
    }

    private static void countsAre(String what, PlainLines x, int... counts) {
        for (int w = 0; w < counts.length; w++) {
            Due.is(what + ": count(" + w + ")", x.count(w), counts[w]);
        }
    }

    private static void acrossAre(String what, PlainLines x, int... counts) {
        for (int w = 0; w < counts.length; w++) {
            Due.is(what + ": across(" + w + ")", x.across(w), counts[w]);
        }
    }

    private static void failsAre(String what, PlainLines x, int... counts) {
        for (int t = 0; t < counts.length; t++) {
            Due.is(what + ": fails(" + t + ")", x.fails(t), counts[t]);
        }
    }

    private static void countOfNoGoodPlace() {
        Due.sentence("Terms 3: COUNTS: of how many MESSAGES the WORDS have w ones, K 0");
        for (int n : Made.SIZES) {
            PlainLines x = Made.ofSize(n);
            for (int w = 0; w <= n; w++) {
                Due.is("count(" + w + ") of " + n, x.count(w), w == 0 ? 1 : 0);
            }
            x.freeze(n - 1, 1);
            for (int w = 0; w <= n; w++) {
                Due.is("count(" + w + ") of all ones, " + n, x.count(w), w == n ? 1 : 0);
            }
        }
    }

    private static void countOfAllGoodPlaces() {
        Due.sentence("Terms 3: COUNTS, all PLACES GOOD");
        for (int n = 2; n <= 8; n *= 2) {
            PlainLines x = Made.withGood(n, all(n));
            for (int w = 0; w <= n; w++) {
                Due.is("count(" + w + ") of " + n, x.count(w), Made.choices(n, w));
            }
        }
    }

    private static void countOfTwelveBits() {
        Due.sentence("Terms 3: COUNTS, K 12 at most");
        for (int n = 16; n <= 32; n += 16) {
            PlainLines x = Made.withGood(n, 0b111111111111L);
            int sum = 0;
            for (int w = 0; w <= n; w++) {
                sum += x.count(w);
            }
            Due.is("counts together, K 12 of " + n, sum, 4096);
            Due.is("count(0), K 12 of " + n, x.count(0), 1);
        }
        // the odd places give each row of eight signs, each sign twice
        PlainLines pairs = Made.withGood(16, 0b1010101010101010L);
        for (int w = 0; w <= 16; w++) {
            Due.is("count(" + w + ") of pairs", pairs.count(w), w % 2 == 0 ? Made.choices(8, w / 2) : 0);
        }
    }

    private static void countOfThirteenBits() {
        Due.sentence("Promise 19: STATE: K is above 12");
        for (int n = 16; n <= 32; n += 16) {
            PlainLines x = Made.withGood(n, 0b111111111111L);
            Due.is("count(0), K 12", x.count(0), 1);
            x.good(12);
            for (int w : new int[] {0, n, -1, n + 1, Made.MIN, Made.MAX}) {
                Due.is("count(" + w + "), K 13 of " + n, x.count(w), -3);
            }
            Made.makeGood(x, all(n));
            Due.is("count(0), K N of " + n, x.count(0), -3);
            x.size(n);
            Due.is("count(0), K 0 of " + n, x.count(0), 1);
        }
    }

    private static void countEdgesOfW() {
        Due.sentence("Promise 19: OUTSIDE: w is not 0 .. N");
        for (int n : Made.SIZES) {
            PlainLines x = Made.withGood(n, 1L << (n - 1));
            Due.is("count(0) of " + n, x.count(0), 1);
            Due.is("count(N) of " + n, x.count(n), 1);
            Due.is("count(N + 1) of " + n, x.count(n + 1), -2);
            Due.is("count(-1) of " + n, x.count(-1), -2);
            Due.is("count(MIN) of " + n, x.count(Made.MIN), -2);
            Due.is("count(MAX) of " + n, x.count(Made.MAX), -2);
        }
    }

    private static void countOfFrozenOnes() {
        Due.sentence("Promise 19: how many WORDS have w ones, with FROZEN ones");
        PlainLines x = Made.withGood(4, 0b1010);
        countsAre("frozen to 0", x, 1, 0, 2, 0, 1);
        x.freeze(0, 1);
        countsAre("the first frozen to 1", x, 0, 2, 0, 2, 0);
        x.freeze(2, 1);
        countsAre("both frozen to 1", x, 0, 2, 0, 2, 0);
        x.freeze(0, 0);
        countsAre("the second frozen to 1", x, 0, 0, 4, 0, 0);
    }

    private static void acrossToNoGoodPlace() {
        Due.sentence("Terms 3: ACROSS, K 0: the one difference is of a WORD to itself");
        for (int n : COUNTED_SIZES) {
            PlainLines x = Made.ofSize(n);
            for (int w = 0; w <= n; w++) {
                Due.is("across(" + w + ") of " + n, x.across(w), Made.choices(n, w));
            }
        }
    }

    private static void acrossToAllGoodPlaces() {
        Due.sentence("Terms 3: ACROSS, all PLACES GOOD");
        for (int n : COUNTED_SIZES) {
            PlainLines x = Made.withGood(n, all(n));
            for (int w = 0; w <= n; w++) {
                Due.is("across(" + w + ") of " + n, x.across(w), w == 0 ? 1 : 0);
            }
        }
    }

    private static void acrossOfEachK() {
        Due.sentence("Terms 3: ACROSS (N 16 at most), of each K");
        PlainLines up = Made.ofSize(16);
        PlainLines down = Made.ofSize(16);
        for (int k = 1; k <= 16; k++) {
            up.good(k - 1);
            down.good(16 - k);
            Due.is("rows across, the first " + k, together(up), 1 << (16 - k));
            Due.is("rows across, the last " + k, together(down), 1 << (16 - k));
            // the words of the first k places leave the signs from k on as they are
            Due.is("one sign across, the first " + k, up.across(1), 16 - k);
            Due.is("one sign across, the last " + k, down.across(1), 0);
        }
    }

    private static int together(PlainLines x) {
        int sum = 0;
        for (int w = 0; w <= 16; w++) {
            sum += x.across(w);
        }
        return sum;
    }

    private static void acrossLooksAtDifferences() {
        Due.sentence("Terms 3: ACROSS: the product with each difference of two WORDS is 0");
        PlainLines x = Made.withGood(4, 0b0001);
        // words are 0000 and 1000, or those with the same frozen ones added
        acrossAre("frozen to 0", x, 1, 3, 3, 1, 0);
        for (int place = 1; place <= 3; place++) {
            x.freeze(place, 1);
            acrossAre("frozen to 1 up to " + place, x, 1, 3, 3, 1, 0);
        }
        acrossAre("the last alone: even rows", Made.withGood(4, 0b1000), 1, 0, 6, 0, 1);
    }

    private static void acrossOfThirtyTwoPlaces() {
        Due.sentence("Promise 20: STATE: N is 32");
        PlainLines x = Made.ofSize(32);
        for (int w : new int[] {0, 16, 32, -1, 33, Made.MIN, Made.MAX}) {
            Due.is("across(" + w + ") of 32", x.across(w), -3);
        }
        x.size(16);
        Due.is("across(16) of 16", x.across(16), 1);
    }

    private static void acrossEdgesOfW() {
        Due.sentence("Promise 20: OUTSIDE: w");
        for (int n : COUNTED_SIZES) {
            PlainLines x = Made.ofSize(n);
            Due.is("across(0) of " + n, x.across(0), 1);
            Due.is("across(N) of " + n, x.across(n), 1);
            Due.is("across(N + 1) of " + n, x.across(n + 1), -2);
            Due.is("across(-1) of " + n, x.across(-1), -2);
            Due.is("across(MIN) of " + n, x.across(Made.MIN), -2);
            Due.is("across(MAX) of " + n, x.across(Made.MAX), -2);
        }
    }

    private static void failsOfNoGoodPlace() {
        Due.sentence("Terms 3: FAILS, K 0: there is no GOOD PLACE to come to");
        for (int n : COUNTED_SIZES) {
            PlainLines x = Made.ofSize(n);
            for (int t = 0; t <= n; t++) {
                Due.is("fails(" + t + ") of " + n, x.fails(t), 0);
            }
        }
    }

    private static void failsOfTheFirstAndTheLastPlace() {
        Due.sentence("Terms 3: FAILS: the first PLACE is LOST with any sign, the last with all");
        for (int n : COUNTED_SIZES) {
            PlainLines first = Made.withGood(n, 1);
            PlainLines last = Made.withGood(n, 1L << (n - 1));
            for (int t = 0; t <= n; t++) {
                Due.is("fails(" + t + ") of the first of " + n, first.fails(t), t == 0 ? 0 : Made.choices(n, t));
                Due.is("fails(" + t + ") of the last of " + n, last.fails(t), t == n ? 1 : 0);
            }
        }
    }

    private static void failsOfNoneAndAllLost() {
        Due.sentence("Terms 3: FAILS, where t is 0 and where it is N");
        for (int n : COUNTED_SIZES) {
            for (int place = 0; place < n; place++) {
                PlainLines x = Made.withGood(n, 1L << place);
                Due.is("fails(0) of place " + place, x.fails(0), 0);
                Due.is("fails(N) of place " + place, x.fails(n), 1);
            }
        }
    }

    private static void failsOfAllGoodPlaces() {
        Due.sentence("Terms 3: FAILS (N 16 at most), K is not bounded");
        PlainLines x = Made.withGood(16, all(16));
        for (int t = 0; t <= 16; t++) {
            Due.is("fails(" + t + ") of all", x.fails(t), t == 0 ? 0 : Made.choices(16, t));
        }
        PlainLines thirteen = Made.withGood(16, 0b1111111111111000L);
        Due.is("fails(1), K 13", thirteen.fails(1), 0);
        Due.is("fails(16), K 13", thirteen.fails(16), 1);
    }

    private static void failsWithAllBitsRight() {
        Due.sentence("Terms 3: FAILS: READING with all bits right ahead");
        // place 1: both of (0 or 2) and (1 or 3); place 2: (0 and 2) or (1 and 3)
        failsAre("place 1", Made.withGood(4, 0b0010), 0, 0, 4, 4, 1);
        failsAre("place 2", Made.withGood(4, 0b0100), 0, 0, 2, 4, 1);
        failsAre("the places 1 and 2", Made.withGood(4, 0b0110), 0, 0, 6, 4, 1);
        PlainLines x = Made.withGood(4, 0b0100);
        x.freeze(0, 1);
        x.freeze(3, 1);
        failsAre("place 2, others frozen to 1", x, 0, 0, 2, 4, 1);
        x.wide(64);
        failsAre("place 2, W 64", x, 0, 0, 2, 4, 1);
    }

    private static void failsOfThirtyTwoPlaces() {
        Due.sentence("Promise 21: STATE: N is 32");
        PlainLines x = Made.ofSize(32);
        for (int t : new int[] {0, 16, 32, -1, 33, Made.MIN, Made.MAX}) {
            Due.is("fails(" + t + ") of 32", x.fails(t), -3);
        }
        x.size(16);
        x.good(15);
        Due.is("fails(16) of 16", x.fails(16), 1);
    }

    private static void failsEdgesOfT() {
        Due.sentence("Promise 21: OUTSIDE: t is not 0 .. N");
        for (int n : COUNTED_SIZES) {
            PlainLines x = Made.withGood(n, 1);
            Due.is("fails(0) of " + n, x.fails(0), 0);
            Due.is("fails(N) of " + n, x.fails(n), 1);
            Due.is("fails(N + 1) of " + n, x.fails(n + 1), -2);
            Due.is("fails(-1) of " + n, x.fails(-1), -2);
            Due.is("fails(MIN) of " + n, x.fails(Made.MIN), -2);
            Due.is("fails(MAX) of " + n, x.fails(Made.MAX), -2);
        }
    }

    private static void allAre(String what, PlainLines x, int count2, int across1, int fails1) {
        Due.is(what + ": count(2)", x.count(2), count2);
        Due.is(what + ": across(1)", x.across(1), across1);
        Due.is(what + ": fails(1)", x.fails(1), fails1);
    }

    private static void countsFollowEachChange() {
        Due.sentence("Promises 19 to 21 behind size(), good(), freeze(), choose()");
        PlainLines x = Made.ofSize(4);
        allAre("none good", x, 0, 4, 0);
        x.good(0);
        allAre("good(0)", x, 0, 3, 4);
        x.good(1);
        // words 0000, 1000, 1100, 0100
        allAre("good(1)", x, 1, 2, 4);
        x.freeze(0, 0);
        allAre("freeze(0, 0)", x, 1, 2, 0);
        x.freeze(2, 1);
        // words 1010, 0110
        allAre("freeze(2, 1)", x, 2, 2, 0);
        x.choose(2);
        // words 0000, 1010, 1111, 0101
        allAre("choose(2)", x, 2, 0, 0);
        x.size(2);
        allAre("size(2)", x, 0, 2, 0);
        x.freeze(1, 1);
        allAre("freeze(1, 1)", x, 1, 2, 0);
    }

    private static void countsLookAtPlacesAlone() {
        Due.sentence("Promises 19 to 21 behind calls that change no PLACE, and refused ones");
        PlainLines x = Made.withGood(4, 0b0001);
        allAre("at first", x, 0, 3, 4);
        x.line(2, 2);
        x.good(4);
        x.freeze(0, 2);
        x.choose(5);
        x.size(3);
        x.wide(64);
        x.check(1);
        Made.fillAll(x, 2);
        x.read(0, 2);
        x.nearest(0, 2, 0);
        allAre("behind them", x, 0, 3, 4);
        allAre("again", x, 0, 3, 4);
    }
}
