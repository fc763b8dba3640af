/** Promises 19 to 21. */
public final class CountsTest {
    public static void main(String[] args) {
        count();
        across();
        fails();
        countsFollowThePlaces();
        Due.end();
    }

    private static PlainLines of(int n, long good) {
        PlainLines x = new PlainLines();
        x.size(n);
        for (int place = 0; place < n; place++) {
            if ((good >> place & 1) != 0) {
                x.good(place);
            }
        }
        return x;
    }

    private static void countsAre(PlainLines x, int... counts) {
        for (int w = 0; w < counts.length; w++) {
            Due.is("count(" + w + ")", x.count(w), counts[w]);
        }
    }

    private static void acrossAre(PlainLines x, int... counts) {
        for (int w = 0; w < counts.length; w++) {
            Due.is("across(" + w + ")", x.across(w), counts[w]);
        }
    }

    private static void failsAre(PlainLines x, int... counts) {
        for (int t = 0; t < counts.length; t++) {
            Due.is("fails(" + t + ")", x.fails(t), counts[t]);
        }
    }

    private static int choices(int n, int k) {
        int choices = 1;
        for (int i = 1; i <= k; i++) {
            choices = choices * (n - i + 1) / i;
        }
        return choices;
    }

    private static void count() {
        // words 0000, 1100, 1111, 0011
        PlainLines x = of(4, 0b1010);
        countsAre(x, 1, 0, 2, 0, 1);
        x.freeze(0, 1);
        // 1000, 0100, 0111, 1011
        countsAre(x, 0, 2, 0, 2, 0);
        Due.is("count(-1)", x.count(-1), -2);
        Due.is("count(5)", x.count(5), -2);
        countsAre(of(2, 0), 1, 0, 0);
        PlainLines many = of(16, 0x1FFF);
        Due.is("count(0) of 13 bits", many.count(0), -3);
        Due.is("count(17) of 13 bits: STATE ahead of OUTSIDE", many.count(17), -3);
        PlainLines wide = of(32, 0xFFF00000L);
        Due.is("count(0) of 12 bits", wide.count(0), 1);
        Due.is("count(32) of 12 bits", wide.count(32), 1);
        Due.is("count(33) of 12 bits", wide.count(33), -2);
    }

    private static void across() {
        // differences are 0000, 1100, 1111, 0011: across to them are the same
        PlainLines x = of(4, 0b1010);
        acrossAre(x, 1, 0, 2, 0, 1);
        x.freeze(0, 1);
        acrossAre(x, 1, 0, 2, 0, 1);
        // words 0000 and 1000: rows that have 0 first
        acrossAre(of(4, 0b0001), 1, 3, 3, 1, 0);
        // words 0000 and 1111: rows of an even number of ones
        acrossAre(of(4, 0b1000), 1, 0, 6, 0, 1);
        acrossAre(of(2, 0), 1, 2, 1);
        acrossAre(of(2, 3), 1, 0, 0);
        PlainLines all = of(16, 0xFFFF);
        PlainLines none = of(16, 0);
        for (int w = 0; w <= 16; w++) {
            Due.is("across(" + w + ") to all rows", all.across(w), w == 0 ? 1 : 0);
            Due.is("across(" + w + ") to none", none.across(w), choices(16, w));
        }
        Due.is("across(-1)", x.across(-1), -2);
        Due.is("across(5)", x.across(5), -2);
        Due.is("across(0) of 32 places", of(32, 0).across(0), -3);
        Due.is("across(-1) of 32 places: STATE ahead of OUTSIDE", of(32, 0).across(-1), -3);
        Due.is("across(17) of 16 places", all.across(17), -2);
    }

    private static void fails() {
        // the last place is lost where all are lost
        failsAre(of(4, 0b1000), 0, 0, 0, 0, 1);
        // the first place is lost where any is lost
        failsAre(of(4, 0b0001), 0, 4, 6, 4, 1);
        // place 1: both of (0 or 2) and (1 or 3)
        failsAre(of(4, 0b0010), 0, 0, 4, 4, 1);
        // place 2: (0 and 2) or (1 and 3)
        failsAre(of(4, 0b0100), 0, 0, 2, 4, 1);
        failsAre(of(4, 0b1010), 0, 0, 4, 4, 1);
        failsAre(of(4, 0b0110), 0, 0, 6, 4, 1);
        failsAre(of(4, 0), 0, 0, 0, 0, 0);
        failsAre(of(2, 0b01), 0, 2, 1);
        failsAre(of(2, 0b10), 0, 0, 1);
        PlainLines first = of(16, 1);
        PlainLines last = of(16, 0x8000);
        for (int t = 0; t <= 16; t++) {
            Due.is("fails(" + t + ") of the first of 16", first.fails(t), t == 0 ? 0 : choices(16, t));
            Due.is("fails(" + t + ") of the last of 16", last.fails(t), t == 16 ? 1 : 0);
        }
        Due.is("fails(-1)", first.fails(-1), -2);
        Due.is("fails(17)", first.fails(17), -2);
        Due.is("fails(0) of 32 places", of(32, 0).fails(0), -3);
        Due.is("fails(33) of 32 places: STATE ahead of OUTSIDE", of(32, 0).fails(33), -3);
    }

    /** Each way to change the places, behind counts that were asked for. */
    private static void countsFollowThePlaces() {
        PlainLines x = of(4, 0b1010);
        allAre(x, 0, 2, 4);
        x.good(0);
        // words 0000, 1000, 0100, 1100, 1111, 0111, 1011, 0011: across to them are 0000 and 0011
        allAre(x, 2, 1, 6);
        x.freeze(0, 0);
        allAre(x, 0, 2, 4);
        x.choose(1);
        allAre(x, 0, 6, 0);
        x.size(4);
        allAre(x, 0, 6, 0);
        x.freeze(2, 1);
        Due.is("count(2) with a frozen 1", x.count(2), 1);
        x.size(8);
        Due.is("across(2) of 8", x.across(2), 28);
    }

    private static void allAre(PlainLines x, int words1, int across2, int fails2) {
        Due.is("count(1)", x.count(1), words1);
        Due.is("across(2)", x.across(2), across2);
        Due.is("fails(2)", x.fails(2), fails2);
    }
}
