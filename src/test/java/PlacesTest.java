/** Promises 1 to 11. */
public final class PlacesTest {
    private static final long LOST = PlainLines.LOST;

    public static void main(String[] args) {
        aNewObject();
        size();
        line();
        share();
        lower();
        good();
        freeze();
        choose();
        about();
        word();
        fold();
        Due.end();
    }

    private static PlainLines ofSize(int n) {
        PlainLines x = new PlainLines();
        x.size(n);
        return x;
    }

    /** A sheet of N zeros is read, so that told(5) tells whether what was READ goes. */
    private static void readZeros(PlainLines x) {
        x.sheet(0, 0, x.told(0));
        x.read(0, 0);
    }

    private static void aNewObject() {
        PlainLines x = new PlainLines();
        Due.is("new told(0)", x.told(0), 8);
        Due.is("new told(1)", x.told(1), 0);
        Due.is("new told(2)", x.told(2), 1);
        Due.is("new told(3)", x.told(3), 2);
        Due.is("new told(4)", x.told(4), 1);
        Due.is("new told(5)", x.told(5), -9);
        for (int place = 0; place < 8; place++) {
            Due.is("new about(" + place + ", 0)", x.about(place, 0), 0);
            Due.is("new about(" + place + ", 1)", x.about(place, 1), 0);
        }
        for (int k = 0; k < 4; k++) {
            Due.is("new lose(" + k + ")", x.lose(k), 0);
        }
        Due.is("new trace()", x.trace(), 0);
        Due.is("new fault()", x.fault(), 0);
        Due.is("new passed()", x.passed(), -3);
        Due.is("new path(0)", x.path(0), LOST);
        x.good(7);
        x.sheet(0, 0, 8);
        x.send(0, 1, 0, 0);
        x.read(0, 0);
        Due.is("the mask is 0 at first", x.passed(), 0);
        Due.is("LOST", LOST, Long.MIN_VALUE);
        Due.is("UNKNOWN", PlainLines.UNKNOWN, -1);
        Due.is("OUTSIDE", PlainLines.OUTSIDE, -2);
        Due.is("STATE", PlainLines.STATE, -3);
        Due.is("NONE", PlainLines.NONE, -9);
    }

    private static void size() {
        PlainLines x = new PlainLines();
        int before = 8;
        for (int n = -3; n <= 70; n++) {
            boolean isSize = n == 2 || n == 4 || n == 8 || n == 16 || n == 32;
            Due.is("size(" + n + ")", x.size(n), isSize ? before : -2);
            before = isSize ? n : before;
            Due.is("told(0) behind size(" + n + ")", x.told(0), before);
        }
        Due.is("size(MIN)", x.size(Integer.MIN_VALUE), -2);
        Due.is("size(MAX)", x.size(Integer.MAX_VALUE), -2);
        sizeSetsAllAnew();
        refusedSizeChangesNothing();
    }

    private static void sizeSetsAllAnew() {
        PlainLines x = new PlainLines();
        x.good(3);
        x.freeze(5, 1);
        x.wide(7);
        x.line(2, 5);
        readZeros(x);
        Due.is("size(8) again", x.size(8), 8);
        Due.is("told(5) behind size", x.told(5), -9);
        Due.is("told(1) behind size", x.told(1), 0);
        Due.is("about(3, 1) behind size", x.about(3, 1), 0);
        Due.is("about(5, 1) behind size", x.about(5, 1), 0);
        Due.is("W stays", x.told(4), 7);
        Due.is("p stays", x.told(2), 2);
        Due.is("q stays", x.told(3), 5);
        Due.is("sheets stay", x.lose(0), 1);
    }

    private static void refusedSizeChangesNothing() {
        PlainLines x = new PlainLines();
        x.good(3);
        readZeros(x);
        x.size(6);
        Due.is("told(1) behind size(6)", x.told(1), 1);
        Due.is("told(5) behind size(6)", x.told(5), 1);
    }

    private static void line() {
        PlainLines x = new PlainLines();
        int p = 1;
        int q = 2;
        for (int upper = -2; upper <= 10; upper++) {
            for (int lower = -2; lower <= 10; lower++) {
                boolean isShare = lower >= 1 && lower <= 8 && upper >= 0 && upper <= lower;
                Due.is("line(" + upper + ", " + lower + ")", x.line(upper, lower), isShare ? 1 : -2);
                p = isShare ? upper : p;
                q = isShare ? lower : q;
                Due.is("p behind line", x.told(2), p);
                Due.is("q behind line", x.told(3), q);
            }
        }
        readZeros(x);
        x.line(1, 3);
        Due.is("line keeps what was READ", x.told(5), 1);
    }

    private static void share() {
        PlainLines x = ofSize(4);
        x.line(1, 3);
        // 1/3: with 0 5/9, with 1 1/9; from 5/9: 65/81, 25/81; from 1/9: 17/81, 1/81
        Due.is("share(0)", x.share(0), 65);
        Due.is("share(1)", x.share(1), 25);
        Due.is("share(2)", x.share(2), 17);
        Due.is("share(3)", x.share(3), 1);
        Due.is("share(4)", x.share(4), LOST);
        Due.is("share(-1)", x.share(-1), LOST);
        x.size(32);
        Due.is("share with 3 to the 32", x.share(0), LOST);
        x.line(1, 2);
        Due.is("share with 2 to the 32", x.share(31), 1);
        Due.is("share(32)", x.share(32), LOST);
        x.line(1, 1);
        Due.is("share with 1 to the 32", x.share(16), 1);
        x.size(16);
        x.line(8, 8);
        Due.is("share with 8 to the 16", x.share(0), 281474976710656L);
    }

    private static void lower() {
        for (int n = 2; n <= 32; n *= 2) {
            for (int q = 1; q <= 8; q++) {
                PlainLines x = ofSize(n);
                x.line(0, q);
                Due.is("lower() of " + q + " to the " + n, x.lower(), lowerDue(q, n));
            }
        }
    }

    private static long lowerDue(int q, int n) {
        java.math.BigInteger power = java.math.BigInteger.valueOf(q).pow(n);
        return power.compareTo(java.math.BigInteger.TEN.pow(15)) > 0 ? LOST : power.longValue();
    }

    private static void good() {
        PlainLines x = new PlainLines();
        Due.is("good(-1)", x.good(-1), -1);
        Due.is("good(8)", x.good(8), -1);
        Due.is("good(0)", x.good(0), 1);
        Due.is("good(7)", x.good(7), 1);
        Due.is("told(1)", x.told(1), 2);
        readZeros(x);
        Due.is("good(8) refused", x.good(8), -1);
        Due.is("READ stays behind a refused good", x.told(5), 1);
        Due.is("good(7) again", x.good(7), 0);
        Due.is("READ goes with good, also where nothing is other", x.told(5), -9);
        x.size(32);
        Due.is("good(31)", x.good(31), 1);
        Due.is("good(32)", x.good(32), -1);
        x.freeze(3, 1);
        Due.is("good(3) of one frozen to 1", x.good(3), 1);
        Due.is("word has no frozen bit at a good place", x.word(0), 0);
    }

    private static void freeze() {
        PlainLines x = new PlainLines();
        Due.is("freeze(8, 2): UNKNOWN ahead of OUTSIDE", x.freeze(8, 2), -1);
        Due.is("freeze(-1, 0)", x.freeze(-1, 0), -1);
        Due.is("freeze(0, 2)", x.freeze(0, 2), -2);
        Due.is("freeze(0, -1)", x.freeze(0, -1), -2);
        Due.is("freeze(0, 0) at first", x.freeze(0, 0), 0);
        Due.is("freeze(0, 1)", x.freeze(0, 1), 1);
        Due.is("freeze(0, 1) again", x.freeze(0, 1), 0);
        Due.is("freeze(0, 0) again", x.freeze(0, 0), 1);
        x.good(5);
        Due.is("freeze(5, 0) of a good one", x.freeze(5, 0), 1);
        Due.is("told(1)", x.told(1), 0);
        readZeros(x);
        x.freeze(5, 2);
        x.freeze(9, 0);
        Due.is("READ stays behind a refused freeze", x.told(5), 1);
        x.freeze(5, 0);
        Due.is("READ goes with freeze, also where nothing is other", x.told(5), -9);
    }

    private static void choose() {
        PlainLines x = new PlainLines();
        Due.is("choose(-1)", x.choose(-1), LOST);
        Due.is("choose(9)", x.choose(9), LOST);
        x.freeze(0, 1);
        x.good(1);
        Due.is("choose(3)", x.choose(3), 1 + 31 + 49);
        Due.is("others are frozen to 0", x.about(0, 1), 0);
        Due.is("others are frozen", x.about(1, 0), 0);
        goodOnesAre(x, 0b11100000);
        x.line(1, 1);
        Due.is("choose(3) of like ones", x.choose(3), 3);
        goodOnesAre(x, 0b11100000);
        Due.is("choose(8)", x.choose(8), 8);
        goodOnesAre(x, 0b11111111);
        Due.is("choose(0)", x.choose(0), 0);
        goodOnesAre(x, 0);
        x.line(1, 2);
        x.choose(4);
        goodOnesAre(x, 0b11101000);
        readZeros(x);
        x.choose(9);
        Due.is("READ stays behind a refused choose", x.told(5), 1);
        x.choose(4);
        Due.is("READ goes with choose, also where nothing is other", x.told(5), -9);
        chooseWithoutShares();
    }

    private static void chooseWithoutShares() {
        PlainLines x = ofSize(32);
        x.good(2);
        x.line(1, 3);
        readZeros(x);
        Due.is("choose where shares are not told", x.choose(1), LOST);
        goodOnesAre(x, 0b100);
        Due.is("READ stays where shares are not told", x.told(5), 1);
    }

    private static void goodOnesAre(PlainLines x, int mask) {
        for (int place = 0; place < x.told(0); place++) {
            Due.is("about(" + place + ", 0)", x.about(place, 0), mask >> place & 1);
        }
    }

    private static void about() {
        PlainLines x = new PlainLines();
        x.good(2);
        x.good(6);
        x.freeze(4, 1);
        Due.is("about(2, 0)", x.about(2, 0), 1);
        Due.is("about(2, 1)", x.about(2, 1), -9);
        Due.is("about(2, 2)", x.about(2, 2), 0);
        Due.is("about(6, 2)", x.about(6, 2), 1);
        Due.is("about(4, 0)", x.about(4, 0), 0);
        Due.is("about(4, 1)", x.about(4, 1), 1);
        Due.is("about(4, 2)", x.about(4, 2), -9);
        Due.is("about(5, 1)", x.about(5, 1), 0);
        Due.is("about(8, 3): UNKNOWN ahead of OUTSIDE", x.about(8, 3), -1);
        Due.is("about(-1, 0)", x.about(-1, 0), -1);
        Due.is("about(0, 3)", x.about(0, 3), -2);
        Due.is("about(0, -1)", x.about(0, -1), -2);
    }

    private static void word() {
        PlainLines x = ofSize(4);
        x.good(1);
        x.good(3);
        // place 1 alone gives 1100 read from place 0 on, place 3 gives 1111
        Due.is("word(0)", x.word(0), 0);
        Due.is("word(1)", x.word(1), 0b0011);
        Due.is("word(2)", x.word(2), 0b1111);
        Due.is("word(3)", x.word(3), 0b1100);
        Due.is("word(4)", x.word(4), LOST);
        Due.is("word(-1)", x.word(-1), LOST);
        Due.is("word(MAX)", x.word(Long.MAX_VALUE), LOST);
        x.freeze(2, 1);
        Due.is("word(0) with a frozen 1", x.word(0), 0b0101);
        Due.is("word(1) with a frozen 1", x.word(1), 0b0110);
        PlainLines none = ofSize(32);
        Due.is("word(0) of no good places", none.word(0), 0);
        Due.is("word(1) of no good places", none.word(1), LOST);
        for (int place = 0; place < 32; place++) {
            none.good(place);
        }
        Due.is("word(2^31)", none.word(1L << 31), 0xFFFFFFFFL);
        Due.is("word(2^32 - 1)", none.word(0xFFFFFFFFL), 1L << 31);
        Due.is("word(2^32)", none.word(1L << 32), LOST);
    }

    private static void fold() {
        PlainLines x = ofSize(2);
        Due.is("fold(0)", x.fold(0), 0);
        Due.is("fold(1)", x.fold(1), 1);
        Due.is("fold(2)", x.fold(2), 3);
        Due.is("fold(3)", x.fold(3), 2);
        Due.is("fold(4)", x.fold(4), LOST);
        Due.is("fold(-1)", x.fold(-1), LOST);
        Due.is("fold(MIN)", x.fold(Long.MIN_VALUE), LOST);
        for (int n = 4; n <= 32; n *= 2) {
            x.size(n);
            long row = 0x9E3779B9L & ((1L << n) - 1);
            Due.is("folded twice, " + n, x.fold(x.fold(row)), row);
            Due.is("the last place of " + n, x.fold(1L << (n - 1)), (1L << n) - 1);
            Due.is("fold(2^N) of " + n, x.fold(1L << n), LOST);
        }
    }
}
