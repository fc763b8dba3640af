/** The sentences of Terms, part 2, and of the promises 12 to 18 that name a boundary case. */
public final class ReadingBoundaryTest {
    private static final long LOST = PlainLines.LOST;
    private static final int[] SIZES = Made.SIZES;

    public static void main(String[] args) {
        aRowIsTheFirstNCells();
        zeroAndOneAreBits();
        anyOtherNumberIsLost();
        atFirstThereIsOnePath();
        lostIfOneIsLost();
        theSecondHalfBySignsOfItsOwn();
        theSecondHalfByTheFirst();
        theFoldingOfTheFirstHalf();
        twoPathsComeOfALostBit();
        aPathEnds();
        somePathsEnd();
        theFirstWStayBehindEachPlace();
        sixtyFourPathsAtMost();
        checkOfMaskZero();
        checkOfTheLastBit();
        wideEdges();
        wideKeepsWhatIsRead();
        checkEdges();
        checkIsLookedAtByPassed();
        readOfExactlyNCells();
        readAgain();
        readOfNonePathLeft();
        whatWasReadStaysBehindItsSheet();
        pathEdges();
        passedTellsTheFirst();
        passedOfNone();
        nearestOfNoneAndAll();
        nearestOfSeveral();
        nearestOfLostOnes();
        nearestOfFrozenOnes();
        nearestFollowsThePlaces();
        nearestOfTwelveBits();
        nearestOfExactlyNCells();
        sendOfNoneAndAll();
        sendLosesFirst();
        sendOfExactlyNCells();
        sendKeepsTheRest();
        sendOfMessages();
        Due.end();
    }

    private static void pathsAre(String what, PlainLines x, int k, int lane, long... messages) {
        Due.is(what + ": read", x.read(k, lane), messages.length);
        Due.is(what + ": told(5)", x.told(5), messages.length);
        for (int i = 0; i < messages.length; i++) {
            Due.is(what + ": path(" + i + ")", x.path(i), messages[i]);
        }
        Due.is(what + ": path behind the last", x.path(messages.length), LOST);
        Due.is(what + ": path(-1)", x.path(-1), LOST);
    }

    private static PlainLines wide(int n, long good, int w) {
        PlainLines x = Made.withGood(n, good);
        x.wide(w);
        return x;
    }

    private static void aRowIsTheFirstNCells() {
        Due.sentence("Terms 2: A ROW is N cells of a SHEET from 0 on");
        PlainLines x = wide(2, 0b11, 4);
        Made.fill(x, 0, 0, 1, 0, 7, 1, 1);
        pathsAre("cells beyond N", x, 0, 0, 1);
        Due.is("nearest beyond N", x.nearest(0, 0, 0), 1);
        Due.is("unlike beyond N", x.nearest(0, 0, 1), 0);
        Due.is("send", x.send(0, 2, 0, 0), 0);
        Due.isSame("cells behind send", Made.cellsOf(x, 0, 0), " 1 1 7 1 1");
        for (int beyond = 0; beyond <= 2; beyond++) {
            Made.fill(x, 0, 0, 0, 0, beyond);
            pathsAre("all 0, then " + beyond, x, 0, 0, 0);
            Made.fill(x, 0, 0, 0, 1, beyond);
            pathsAre("0 and 1, then " + beyond, x, 0, 0, 3);
            Due.is("nearest, then " + beyond, x.nearest(0, 0, 0), 3);
            Due.is("unlike, then " + beyond, x.nearest(0, 0, 1), 0);
        }
    }

    /** Two good places, the second sign 0: a bit ahead of it is the message, a LOST sign makes two paths. */
    private static void firstSignIs(int lane, long number, int... messages) {
        PlainLines x = wide(2, 0b11, 4);
        Made.fill(x, 0, lane, number, 0);
        String what = "lane " + lane + ", " + number;
        Due.is(what + ": read", x.read(0, lane), messages.length);
        for (int i = 0; i < messages.length; i++) {
            Due.is(what + ": path(" + i + ")", x.path(i), messages[i]);
        }
        Due.is(what + ": nearest", x.nearest(0, lane, 0), messages[0]);
    }

    private static void zeroAndOneAreBits() {
        Due.sentence("Terms 2: 0 and 1 are bits, as they are when cut to the LANE");
        for (int lane = 0; lane <= 2; lane++) {
            firstSignIs(lane, 0, 0);
            firstSignIs(lane, 1, 1);
        }
        firstSignIs(0, 256, 0);
        firstSignIs(0, 257, 1);
        firstSignIs(0, -255, 1);
        firstSignIs(0, Long.MIN_VALUE, 0);
        firstSignIs(1, 1L << 32, 0);
        firstSignIs(1, (1L << 32) + 1, 1);
        firstSignIs(1, Long.MIN_VALUE, 0);
    }

    private static void anyOtherNumberIsLost() {
        Due.sentence("Terms 2: any other number is LOST");
        for (int lane = 0; lane <= 2; lane++) {
            for (long number : new long[] {-1, 2, 3, 127, 128, 255, 258, -2, Long.MAX_VALUE}) {
                firstSignIs(lane, number, 0, 1);
            }
        }
        for (long number : new long[] {256, 257, Integer.MIN_VALUE, Integer.MAX_VALUE}) {
            firstSignIs(1, number, 0, 1);
            firstSignIs(2, number, 0, 1);
        }
        firstSignIs(2, 1L << 32, 0, 1);
        firstSignIs(2, (1L << 32) + 1, 0, 1);
        firstSignIs(2, Long.MIN_VALUE, 0, 1);
    }

    private static void atFirstThereIsOnePath() {
        Due.sentence("Terms 2: at first there is one, that knows none");
        for (int n : SIZES) {
            PlainLines x = wide(n, 0, 64);
            Made.fillAll(x, 2);
            pathsAre("all FROZEN, all LOST, " + n, x, 0, 2, 0);
            Made.fillAll(x, 0);
            pathsAre("all FROZEN, " + n, x, 0, 2, 0);
        }
    }

    private static void lostIfOneIsLost() {
        Due.sentence("Terms 2: SEEN i and SEEN i + N / 2 summed modulo 2 (LOST, if one is LOST)");
        PlainLines x = wide(2, 0b01, 4);
        Made.fill(x, 0, 0, 0, 0);
        pathsAre("0 0", x, 0, 0, 0);
        Made.fill(x, 0, 0, 1, 0);
        pathsAre("1 0", x, 0, 0, 1);
        Made.fill(x, 0, 0, 9, 0);
        pathsAre("the first LOST", x, 0, 0, 0, 1);
        x.freeze(1, 1);
        Made.fill(x, 0, 0, 1, 1);
        pathsAre("1 1", x, 0, 0, 0);
        Made.fill(x, 0, 0, 0, 1);
        pathsAre("0 1", x, 0, 0, 1);
        Made.fill(x, 0, 0, 9, 9);
        pathsAre("both LOST", x, 0, 0, 0, 1);
        Made.fill(x, 0, 0, 0, 9);
        pathsAre("the second LOST: what comes behind tells", x, 0, 0, 1);
    }

    private static void theSecondHalfBySignsOfItsOwn() {
        Due.sentence("Terms 2: SEEN i + N / 2, if it is not LOST");
        PlainLines x = wide(2, 0b10, 4);
        Made.fill(x, 0, 0, 9, 1);
        pathsAre("the first LOST", x, 0, 0, 1);
        Made.fill(x, 0, 0, 9, 0);
        pathsAre("the first LOST, 0", x, 0, 0, 0);
        x.freeze(0, 1);
        Made.fill(x, 0, 0, 9, 1);
        pathsAre("what is known ahead is not summed to it", x, 0, 0, 1);
        Made.fill(x, 0, 0, 0, 1);
        pathsAre("none LOST", x, 0, 0, 1);
        Made.fill(x, 0, 0, 1, 0);
        pathsAre("none LOST, 0", x, 0, 0, 0);
    }

    private static void theSecondHalfByTheFirst() {
        Due.sentence("Terms 2: else SEEN i and c i summed (LOST, if that is LOST)");
        PlainLines x = wide(2, 0b10, 4);
        Made.fill(x, 0, 0, 1, 9);
        pathsAre("1 and 0", x, 0, 0, 1);
        x.freeze(0, 1);
        pathsAre("1 and 1", x, 0, 0, 0);
        Made.fill(x, 0, 0, 0, 9);
        pathsAre("0 and 1", x, 0, 0, 1);
        Made.fill(x, 0, 0, 9, 9);
        pathsAre("both LOST", x, 0, 0, 0, 1);
    }

    private static void theFoldingOfTheFirstHalf() {
        Due.sentence("Terms 2: with c the FOLDING of its bits of the first half");
        PlainLines x = wide(4, 0b1100, 4);
        x.freeze(0, 1);
        x.freeze(1, 1);
        // c is 0 1, so the second half's signs are 1 0, whose bits are 1 0
        Made.fill(x, 0, 1, 1, 1, 9, 9);
        pathsAre("c of 1 1", x, 0, 1, 1);
        for (int n : SIZES) {
            PlainLines y = wide(n, -(1L << (n / 2)), 64);
            for (int place = 0; place < n / 2; place++) {
                y.freeze(place, place % 3 == 0 ? 0 : 1);
            }
            y.sheet(0, 0, n);
            long message = 0x9E37L & ((1L << (n / 2)) - 1);
            long secondHalf = ((1L << n) - 1) & -(1L << (n / 2));
            Due.is("send, the second half LOST", y.send(0, message, secondHalf, 0), n / 2);
            pathsAre("the second half LOST, " + n, y, 0, 0, message);
        }
    }

    private static void twoPathsComeOfALostBit() {
        Due.sentence("Terms 2: two PATHS come of it, with 0, then with 1 (in its place in the order)");
        PlainLines x = wide(4, 0b1010, 64);
        Made.fillAll(x, 2);
        pathsAre("all LOST", x, 0, 2, 0, 2, 1, 3);
        PlainLines y = wide(4, 0b1110, 64);
        Made.fillAll(y, 2);
        pathsAre("all LOST, three bits", y, 0, 2, 0, 4, 2, 6, 1, 5, 3, 7);
    }

    private static void aPathEnds() {
        Due.sentence("Terms 2: if THE BIT is told as unlike to what it is FROZEN to, the PATH ends");
        for (int bit = 0; bit <= 1; bit++) {
            PlainLines x = wide(2, 0b10, 4);
            x.freeze(0, bit);
            Made.fill(x, 0, 0, bit, 0);
            pathsAre("FROZEN to " + bit + ", told so", x, 0, 0, 0);
            Made.fill(x, 0, 0, 1 - bit, 0);
            pathsAre("FROZEN to " + bit + ", told unlike", x, 0, 0);
            Made.fill(x, 0, 0, 9, 0);
            pathsAre("FROZEN to " + bit + ", LOST", x, 0, 0, 0);
            PlainLines last = wide(2, 0b01, 4);
            last.freeze(1, bit);
            Made.fill(last, 0, 0, 0, bit);
            pathsAre("the last FROZEN to " + bit + ", told so", last, 0, 0, bit);
            Made.fill(last, 0, 0, 0, 1 - bit);
            pathsAre("the last FROZEN to " + bit + ", told unlike", last, 0, 0);
        }
    }

    /** Words are u0 + u1, u1, 0, 0: the sign 1 alone tells u1, but only behind both good places. */
    private static void somePathsEnd() {
        Due.sentence("Terms 2: some PATHS end, the others stay in their order");
        PlainLines x = wide(4, 0b0011, 64);
        Made.fill(x, 0, 0, 9, 1, 9, 9);
        pathsAre("u1 is 1", x, 0, 0, 2, 3);
        Made.fill(x, 0, 0, 9, 0, 9, 9);
        pathsAre("u1 is 0", x, 0, 0, 0, 1);
    }

    private static void theFirstWStayBehindEachPlace() {
        Due.sentence("Terms 2: Behind each PLACE the first W PATHS stay, the others go");
        PlainLines x = wide(4, 0b0011, 1);
        Made.fill(x, 0, 0, 9, 1, 9, 9);
        pathsAre("W 1: the one that stays ends", x, 0, 0);
        x.wide(2);
        pathsAre("W 2", x, 0, 0, 2);
        x.wide(3);
        pathsAre("W 3", x, 0, 0, 2);
        x.wide(4);
        pathsAre("W 4", x, 0, 0, 2, 3);
        PlainLines two = wide(2, 0b01, 1);
        Made.fill(two, 0, 0, 1, 9);
        pathsAre("two places, W 1", two, 0, 0);
        two.wide(2);
        pathsAre("two places, W 2", two, 0, 0, 1);
    }

    private static void sixtyFourPathsAtMost() {
        Due.sentence("Terms 2: W 1 .. 64");
        PlainLines x = wide(8, 0b11111110, 64);
        Made.fillAll(x, 2);
        Due.is("read of 128 paths, W 64", x.read(0, 2), 64);
        Due.is("path(62)", x.path(62), 62);
        Due.is("path(63)", x.path(63), 126);
        Due.is("path(64)", x.path(64), LOST);
        x.wide(63);
        Due.is("read of 128 paths, W 63", x.read(0, 2), 63);
        Due.is("path(62), W 63", x.path(62), 62);
        Due.is("path(63), W 63", x.path(63), LOST);
        x.wide(64);
        x.freeze(1, 0);
        Due.is("read of 64 paths, W 64", x.read(0, 2), 64);
        Due.is("path(63) of 64", x.path(63), 63);
        PlainLines all = wide(32, 0xFFFFFFFFL, 64);
        Made.fillAll(all, 2);
        Due.is("read of 2^32 paths, W 64", all.read(0, 2), 64);
        Due.is("path(0)", all.path(0), 0);
        Due.is("path(1)", all.path(1), 1L << 31);
        Due.is("path(63)", all.path(63), 0xFC000000L);
        Due.is("path(64)", all.path(64), LOST);
        all.wide(1);
        Due.is("read of 2^32 paths, W 1", all.read(0, 2), 1);
        Due.is("path(0), W 1", all.path(0), 0);
        Due.is("path(1), W 1", all.path(1), LOST);
    }

    private static void checkOfMaskZero() {
        Due.sentence("Terms 2: CHECK: mask 0: always so");
        PlainLines x = wide(2, 0b11, 4);
        x.check(3);
        x.check(0);
        for (int message = 0; message < 4; message++) {
            x.sheet(0, 0, 2);
            x.send(0, message, 0, 0);
            x.read(0, 0);
            Due.is("path(0)", x.path(0), message);
            Due.is("passed() of message " + message, x.passed(), 0);
        }
    }

    private static void checkOfTheLastBit() {
        Due.sentence("Terms 2: CHECK: bit i for the MESSAGE's i-th bit, the sum modulo 2 has to be 0");
        PlainLines x = Made.withGood(32, 0xFFFFFFFFL);
        x.sheet(0, 0, 32);
        x.send(0, 1L << 31, 0, 0);
        x.read(0, 0);
        x.check(1L << 31);
        Due.is("passed() by bit 31", x.passed(), -9);
        x.check((1L << 31) - 1);
        Due.is("passed() by all others", x.passed(), 0);
        x.check((1L << 31) + 1);
        Due.is("passed() by the bits 31 and 0", x.passed(), -9);
        x.send(0, (1L << 31) + 1, 0, 0);
        x.read(0, 0);
        Due.is("passed() of both bits", x.passed(), 0);
        x.check(1);
        Due.is("passed() by bit 0", x.passed(), -9);
        PlainLines few = Made.withGood(8, 0b10010000);
        few.sheet(0, 0, 8);
        few.send(0, 2, 0, 0);
        few.read(0, 0);
        few.check(0b10010000);
        Due.is("the mask is of MESSAGE bits, not of PLACES", few.passed(), 0);
        few.check(0b10);
        Due.is("the MESSAGE's bit 1", few.passed(), -9);
        few.check(0xFFFFFFFDL);
        Due.is("bits beyond K are of no MESSAGE bit", few.passed(), 0);
    }

    private static void wideEdges() {
        Due.sentence("Promise 12: W becomes w: what it was. OUTSIDE");
        PlainLines x = new PlainLines();
        Due.is("wide(64)", x.wide(64), 1);
        Due.is("wide(65)", x.wide(65), -2);
        Due.is("wide(0)", x.wide(0), -2);
        Due.is("wide(-1)", x.wide(-1), -2);
        Due.is("wide(MIN)", x.wide(Made.MIN), -2);
        Due.is("wide(MAX)", x.wide(Made.MAX), -2);
        Due.is("W", x.told(4), 64);
        Due.is("wide(1)", x.wide(1), 64);
        Due.is("wide(1) again", x.wide(1), 1);
        Due.is("W", x.told(4), 1);
    }

    private static void wideKeepsWhatIsRead() {
        Due.sentence("Promise 12: nothing else is other");
        PlainLines x = Made.busy();
        Due.is("wide(1)", x.wide(1), 3);
        Due.is("fault()", x.fault(), 4);
        Due.isSame("behind wide(1)", Made.lookOf(x),
            Made.lookOf(Made.busy()).replace("told 4, 2, 1, 3, 3, 2", "told 4, 2, 1, 3, 1, 2"));
    }

    private static void checkEdges() {
        Due.sentence("Promise 13: OUTSIDE: it is below 0, or 2^32 or above");
        PlainLines x = Made.withGood(32, 0xFFFFFFFFL);
        x.sheet(0, 0, 32);
        x.send(0, 1, 0, 0);
        x.read(0, 0);
        Due.is("check(2^32 - 1)", x.check((1L << 32) - 1), 1);
        Due.is("passed()", x.passed(), -9);
        for (long m : new long[] {-1, Long.MIN_VALUE, 1L << 32, Long.MAX_VALUE, -2}) {
            Due.is("check(" + m + ")", x.check(m), -2);
            Due.is("passed() behind check(" + m + ")", x.passed(), -9);
        }
        Due.is("check(0)", x.check(0), 1);
        Due.is("passed() by mask 0", x.passed(), 0);
    }

    private static void checkIsLookedAtByPassed() {
        Due.sentence("Promise 13: CHECK's mask becomes m, nothing else is other");
        PlainLines x = Made.busy();
        Due.is("check(2)", x.check(2), 1);
        Due.is("fault()", x.fault(), 4);
        Due.isSame("behind check(2)", Made.lookOf(x), Made.lookOf(Made.busy()).replace("passed 1", "passed -9"));
    }

    private static void readOfExactlyNCells() {
        Due.sentence("Promise 14: INDEX: it has fewer than N cells");
        for (int n : SIZES) {
            for (int lane = 0; lane <= 2; lane++) {
                PlainLines x = Made.ofSize(n);
                x.sheet(0, lane, n);
                Due.is("read of N cells, " + n, x.read(0, lane), 1);
                Due.is("fault()", x.fault(), 0);
                x.sheet(0, lane, n - 1);
                Due.is("read of N - 1 cells, " + n, x.read(0, lane), -13);
                Due.is("fault()", x.fault(), 3);
                x.sheet(0, lane, 0);
                Due.is("read of no cells, " + n, x.read(0, lane), -13);
                x.sheet(0, lane, 40);
                Due.is("read of 40 cells, " + n, x.read(0, lane), 1);
                Due.is("fault()", x.fault(), 0);
            }
        }
    }

    private static void readAgain() {
        Due.sentence("Promise 14: A ROW is READ: how many PATHS are left, in place of those READ ahead");
        PlainLines x = wide(4, 0b1010, 64);
        Made.fillAll(x, 2);
        pathsAre("all LOST", x, 0, 2, 0, 2, 1, 3);
        Made.fill(x, 1, 0, 1, 1, 0, 0);
        pathsAre("none LOST", x, 1, 0, 1);
        pathsAre("all LOST again", x, 0, 2, 0, 2, 1, 3);
    }

    private static void readOfNonePathLeft() {
        Due.sentence("Promise 14: where no PATH is left it is READ all the same");
        PlainLines x = wide(2, 0b10, 4);
        Made.fill(x, 0, 0, 1, 0);
        Due.is("read", x.read(0, 0), 0);
        Due.is("told(5)", x.told(5), 0);
        Due.is("path(0)", x.path(0), LOST);
        Due.is("passed()", x.passed(), -9);
        Made.fill(x, 0, 0, 1, 1);
        pathsAre("a path behind none", x, 0, 0, 1);
    }

    private static void whatWasReadStaysBehindItsSheet() {
        Due.sentence("Promise 14: what is READ stays when its SHEET is other");
        PlainLines x = Made.busy();
        x.put(0, 2, 1);
        x.send(0, 3, 0, 0);
        x.copy(0, 0, 0, 1, 2);
        x.sheet(0, 2, 4);
        x.lose(0);
        Due.is("told(5)", x.told(5), 2);
        Due.is("path(0)", x.path(0), 2);
        Due.is("path(1)", x.path(1), 3);
        Due.is("passed()", x.passed(), 1);
    }

    private static void pathEdges() {
        Due.sentence("Promise 15: The MESSAGE of the i-th PATH left. LOST: UNKNOWN; STATE");
        PlainLines x = wide(4, 0b1010, 64);
        Due.is("path(0), nothing READ", x.path(0), LOST);
        Made.fillAll(x, 2);
        x.read(0, 2);
        Due.is("path(0)", x.path(0), 0);
        Due.is("path(3)", x.path(3), 3);
        for (int i : new int[] {-1, 4, 63, 64, Made.MIN, Made.MAX}) {
            Due.is("path(" + i + ")", x.path(i), LOST);
        }
        x.good(1);
        Due.is("path(0) of what went", x.path(0), LOST);
        PlainLines none = Made.ofSize(32);
        Made.fillAll(none, 0);
        none.read(0, 2);
        Due.is("path(0), K 0", none.path(0), 0);
        Due.is("path(1), K 0", none.path(1), LOST);
        Made.makeGood(none, 0xFFFFFFFFL);
        none.send(0, 0xFFFFFFFFL, 0, 0);
        none.read(0, 2);
        Due.is("path(0), K 32", none.path(0), 0xFFFFFFFFL);
    }

    /** Of 64 paths the last sign is 1; each mask of it and one bit more is met where that bit is 1. */
    private static void passedTellsTheFirst() {
        Due.sentence("Promise 16: The first PATH left whose MESSAGE meets the CHECK: its number");
        PlainLines x = wide(8, 0b11111110, 64);
        Made.fill(x, 0, 0, 2, 2, 2, 2, 2, 2, 2, 1);
        Due.is("read", x.read(0, 0), 64);
        Due.is("path(0)", x.path(0), 64);
        Due.is("path(32)", x.path(32), 65);
        for (int bit = 0; bit < 6; bit++) {
            x.check(64 | 1 << bit);
            Due.is("passed() by the bits 6 and " + bit, x.passed(), 32 >> bit);
        }
        x.check(63);
        Due.is("passed() without bit 6", x.passed(), 0);
        x.check(64);
        Due.is("passed() by bit 6", x.passed(), -9);
    }

    private static void passedOfNone() {
        Due.sentence("Promise 16: NONE: there is none. STATE: nothing is READ");
        PlainLines x = wide(2, 0b10, 4);
        Due.is("passed(), nothing READ", x.passed(), -3);
        x.check(1);
        Due.is("passed(), nothing READ, mask 1", x.passed(), -3);
        Made.fill(x, 0, 0, 1, 0);
        Due.is("read: none left", x.read(0, 0), 0);
        Due.is("passed(), none left, mask 1", x.passed(), -9);
        x.check(0);
        Due.is("passed(), none left, mask 0", x.passed(), -9);
        Made.fill(x, 0, 0, 1, 1);
        x.read(0, 0);
        Due.is("passed(), mask 0", x.passed(), 0);
        x.check(1);
        Due.is("passed(), mask 1", x.passed(), -9);
        x.size(2);
        Due.is("passed() of what went", x.passed(), -3);
    }

    private static void nearestIs(String what, PlainLines x, int lane, long message, long unlike) {
        Due.is(what + ": nearest 0", x.nearest(0, lane, 0), message);
        Due.is(what + ": nearest 1", x.nearest(0, lane, 1), unlike);
        Due.is(what + ": fault()", x.fault(), 0);
    }

    private static void nearestOfNoneAndAll() {
        Due.sentence("Promise 17: the MESSAGE whose WORD is unlike it at the fewest PLACES; 0 it, 1 at how many");
        for (int n : SIZES) {
            PlainLines x = Made.ofSize(n);
            Made.fillAll(x, 1);
            nearestIs("K 0, unlike at all, " + n, x, 2, 0, n);
            Made.fillAll(x, 0);
            nearestIs("K 0, unlike at none, " + n, x, 2, 0, 0);
            x.good(n - 1);
            Made.fillAll(x, 1);
            nearestIs("K 1, the last, " + n, x, 2, 1, 0);
        }
        PlainLines all = Made.withGood(8, 0xFF);
        Made.fill(all, 0, 1, 0, 0, 0, 0, 0, 0, 0, 1);
        nearestIs("all GOOD: each row is a WORD", all, 1, 255, 0);
    }

    private static void nearestOfSeveral() {
        Due.sentence("Promise 17: of several the least");
        PlainLines x = Made.withGood(4, 0b1010);
        Made.fill(x, 0, 0, 0, 1, 0, 1);
        nearestIs("all four at 2", x, 0, 0, 2);
        Made.fill(x, 0, 0, 1, 1, 1, 0);
        nearestIs("1 and 2 at 1", x, 0, 1, 1);
        Made.fill(x, 0, 0, 0, 1, 1, 1);
        nearestIs("2 and 3 at 1", x, 0, 2, 1);
    }

    private static void nearestOfLostOnes() {
        Due.sentence("Promise 17: LOST ones are not looked at");
        PlainLines x = Made.withGood(4, 0b1010);
        x.freeze(2, 1);
        Made.fill(x, 0, 2, 2, -1, 1L << 32, 3);
        nearestIs("all LOST", x, 2, 0, 0);
        // the words are 1010, 0110, 0101, 1001, read from place 0 on
        Made.fill(x, 0, 2, 2, 0, 2, 2);
        nearestIs("one told", x, 2, 0, 0);
        Made.fill(x, 0, 2, 2, 1, 2, 1);
        nearestIs("two told", x, 2, 2, 0);
        Made.fill(x, 0, 2, 2, 0, 0, 1);
        nearestIs("three told", x, 2, 3, 0);
        Made.fill(x, 0, 2, 0, 0, 2, 0);
        nearestIs("three told, none meets all", x, 2, 0, 1);
    }

    private static void nearestOfFrozenOnes() {
        Due.sentence("Promise 17: the MESSAGE whose WORD is unlike it, with FROZEN ones");
        PlainLines x = Made.withGood(4, 0b0010);
        x.freeze(3, 1);
        // the words are 1111 and 0011, read from place 0 on
        Made.fill(x, 0, 0, 1, 1, 1, 1);
        nearestIs("the WORD of 0", x, 0, 0, 0);
        Made.fill(x, 0, 0, 0, 0, 1, 1);
        nearestIs("the WORD of 1", x, 0, 1, 0);
        Made.fill(x, 0, 0, 0, 1, 1, 1);
        nearestIs("between both", x, 0, 0, 1);
        Made.fill(x, 0, 0, 0, 0, 0, 0);
        nearestIs("no WORD", x, 0, 1, 2);
    }

    private static void nearestFollowsThePlaces() {
        Due.sentence("Promise 17 behind good(), freeze(), size(): a MESSAGE has K bits");
        PlainLines x = Made.withGood(4, 0b1111);
        Made.fill(x, 0, 0, 1, 0, 0, 1);
        nearestIs("all good", x, 0, 0b1110, 0);
        x.freeze(3, 0);
        nearestIs("three good", x, 0, 0b001, 1);
        x.freeze(2, 0);
        nearestIs("two good", x, 0, 0b01, 1);
        x.size(4);
        nearestIs("none good", x, 0, 0, 2);
        x.good(0);
        nearestIs("one good", x, 0, 1, 1);
    }

    private static void nearestOfTwelveBits() {
        Due.sentence("Promise 17: STATE: K is above 12");
        for (int n = 16; n <= 32; n += 16) {
            PlainLines x = Made.withGood(n, 0b111111111111L);
            x.sheet(0, 0, n);
            x.send(0, 4095, 0, 0);
            nearestIs("K 12 of " + n, x, 0, 4095, 0);
            x.send(0, 2048, 0, 0);
            nearestIs("K 12 of " + n + ", the last bit", x, 0, 2048, 0);
            x.good(12);
            Due.is("nearest, K 13 of " + n, x.nearest(0, 0, 0), LOST);
            Due.is("fault()", x.fault(), 0);
            x.freeze(0, 0);
            x.send(0, 4095, 0, 0);
            nearestIs("K 12 again of " + n, x, 0, 4095, 0);
        }
        PlainLines all = Made.withGood(32, 0xFFFFFFFFL);
        all.sheet(0, 0, 32);
        Due.is("nearest, K 32", all.nearest(0, 0, 1), LOST);
    }

    private static void nearestOfExactlyNCells() {
        Due.sentence("Promise 17: FAULTS CAST, NULL, INDEX");
        for (int n : SIZES) {
            PlainLines x = Made.ofSize(n);
            Due.is("nearest of nothing", x.nearest(0, 1, 0), LOST);
            Due.is("fault() NULL", x.fault(), 1);
            x.sheet(0, 1, n - 1);
            Due.is("nearest of N - 1 cells, " + n, x.nearest(0, 1, 1), LOST);
            Due.is("fault() INDEX", x.fault(), 3);
            Due.is("nearest of N - 1 cells of another LANE", x.nearest(0, 0, 1), LOST);
            Due.is("fault() CAST", x.fault(), 2);
            x.sheet(0, 1, n);
            nearestIs("N cells, " + n, x, 1, 0, 0);
            x.sheet(0, 1, 40);
            nearestIs("40 cells, " + n, x, 1, 0, 0);
        }
    }

    private static void sendOfNoneAndAll() {
        Due.sentence("Promise 18: those that lose has a bit for become 2, those that turn has one for the other bit");
        for (int n : SIZES) {
            long all = (1L << n) - 1;
            PlainLines x = Made.withGood(n, 1L << (n - 1));
            x.sheet(0, 0, n);
            Due.is("none, " + n, x.send(0, 1, 0, 0), 0);
            Due.isSame("none", Made.cellsOf(x, 0, 0), " 1".repeat(n));
            Due.is("all turned, " + n, x.send(0, 1, 0, all), n);
            Due.isSame("all turned", Made.cellsOf(x, 0, 0), " 0".repeat(n));
            Due.is("all lost, " + n, x.send(0, 1, all, 0), n);
            Due.isSame("all lost", Made.cellsOf(x, 0, 0), " 2".repeat(n));
            Due.is("the last lost, " + n, x.send(0, 0, 1L << (n - 1), 0), 1);
            Due.isSame("the last lost", Made.cellsOf(x, 0, 0), " 0".repeat(n - 1) + " 2");
            Due.is("the last turned, " + n, x.send(0, 0, 0, 1L << (n - 1)), 1);
            Due.isSame("the last turned", Made.cellsOf(x, 0, 0), " 0".repeat(n - 1) + " 1");
            Due.is("lose beyond, " + n, x.send(0, 0, all + 1, 0), -2);
            Due.is("turn beyond, " + n, x.send(0, 0, 0, all + 1), -2);
            Due.is("lose below, " + n, x.send(0, 0, -1, 0), -2);
            Due.is("turn below, " + n, x.send(0, 0, 0, -1), -2);
            Due.isSame("refused", Made.cellsOf(x, 0, 0), " 0".repeat(n - 1) + " 1");
        }
    }

    private static void sendLosesFirst() {
        Due.sentence("Promise 18: lose first: how many PLACES are so");
        PlainLines x = Made.withGood(4, 0b1010);
        x.sheet(0, 2, 4);
        Due.is("both of all", x.send(0, 1, 15, 15), 4);
        Due.isSame("both of all", Made.cellsOf(x, 0, 2), " 2 2 2 2");
        Due.is("both of one", x.send(0, 1, 0b0011, 0b0110), 3);
        Due.isSame("both of one", Made.cellsOf(x, 0, 2), " 2 2 1 0");
        Due.is("apart", x.send(0, 1, 0b1000, 0b0001), 2);
        Due.isSame("apart", Made.cellsOf(x, 0, 2), " 0 1 0 2");
    }

    private static void sendOfExactlyNCells() {
        Due.sentence("Promise 18: NULL; INDEX");
        for (int n : SIZES) {
            PlainLines x = Made.ofSize(n);
            Due.is("to nothing", x.send(0, 0, 0, 0), -11);
            Due.is("fault() NULL", x.fault(), 1);
            Made.fill(x, 0, 0, new long[n - 1]);
            Due.is("to N - 1 cells, " + n, x.send(0, 0, (1L << n) - 1, 0), -13);
            Due.is("fault() INDEX", x.fault(), 3);
            Due.isSame("nothing came", Made.cellsOf(x, 0, 0), " 0".repeat(n - 1));
            x.sheet(0, 0, n);
            Due.is("to N cells, " + n, x.send(0, 0, 1, 0), 1);
            Due.is("fault() of none", x.fault(), 0);
            x.sheet(0, 0, 0);
            Due.is("to no cells, " + n, x.send(0, 0, 0, 0), -13);
            x.lose(0);
            Due.is("to nothing again", x.send(0, 0, 0, 0), -11);
        }
    }

    private static void sendKeepsTheRest() {
        Due.sentence("Promise 18: N cells of a SHEET from 0 on, in its LANE; nothing else is other");
        for (int lane = 0; lane <= 2; lane++) {
            PlainLines x = Made.ofSize(32);
            long[] nines = new long[40];
            java.util.Arrays.fill(nines, 9);
            Made.fill(x, 3, lane, nines);
            Due.is("to 40 cells", x.send(3, 0, 1L << 31, 1), 2);
            Due.isSame("to 40 cells", Made.cellsOf(x, 3, lane), " 1" + " 0".repeat(30) + " 2" + " 9".repeat(8));
        }
        PlainLines x = Made.busy();
        Due.is("send", x.send(0, 0, 0, 15), 4);
        Due.is("fault()", x.fault(), 0);
        Due.isSame("behind send", Made.lookOf(x), Made.lookOf(Made.busy()).replace("0: 2 3 0 5 6", "0: 0 1 0 1 6"));
    }

    private static void sendOfMessages() {
        Due.sentence("Promise 18: OUTSIDE: message (as word())");
        PlainLines x = Made.ofSize(32);
        x.sheet(0, 0, 32);
        for (int k = 0; k <= 32; k++) {
            Due.is("send of 2^K - 1, K " + k, x.send(0, (1L << k) - 1, 0, 0), 0);
            Due.is("send of 2^K, K " + k, x.send(0, 1L << k, 0, 0), -2);
            Due.is("send of -1, K " + k, x.send(0, -1, 0, 0), -2);
            x.good(k);
        }
        x.read(0, 0);
        Due.is("the last that was sent", x.path(0), 0xFFFFFFFFL);
        Due.is("send of MIN", x.send(0, Long.MIN_VALUE, 0, 0), -2);
        Due.is("send of MAX", x.send(0, Long.MAX_VALUE, 0, 0), -2);
    }
}
