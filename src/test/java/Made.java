/** Objects in the states that the boundary tests begin from, and what such an object tells of its state. */
final class Made {
    static final int MIN = Integer.MIN_VALUE;
    static final int MAX = Integer.MAX_VALUE;
    static final int[] SIZES = {2, 4, 8, 16, 32};

    private Made() {
    }

    static PlainLines ofSize(int n) {
        PlainLines x = new PlainLines();
        x.size(n);
        return x;
    }

    /** Bit i of the mask: whether place i is good. */
    static PlainLines withGood(int n, long good) {
        PlainLines x = ofSize(n);
        makeGood(x, good);
        return x;
    }

    static void makeGood(PlainLines x, long good) {
        for (int place = 0; place < 32; place++) {
            if ((good >> place & 1) != 0) {
                x.good(place);
            }
        }
    }

    static void fill(PlainLines x, int k, int lane, long... cells) {
        x.sheet(k, lane, cells.length);
        for (int i = 0; i < cells.length; i++) {
            x.put(k, i, cells[i]);
        }
    }

    /** Sheet 0 becomes N longs, each of them LOST or each of them a bit. */
    static void fillAll(PlainLines x, long number) {
        long[] cells = new long[x.told(0)];
        java.util.Arrays.fill(cells, number);
        fill(x, 0, 2, cells);
    }

    /**
     * Each part of the state is other than at first: 4 places, 1 and 3 good, 2 frozen to 1; 1 / 3; W 3;
     * mask 3; sheets of 5 bytes, 3 ints and 4 longs; the paths 2 and 3 are READ, of which the second passes;
     * TRACE is 1 and the latest fault SIZE.
     */
    static PlainLines busy() {
        PlainLines x = withGood(4, 0b1010);
        x.freeze(2, 1);
        x.line(1, 3);
        x.wide(3);
        x.check(3);
        fill(x, 0, 0, 2, 3, 0, 5, 6);
        fill(x, 1, 1, 7, 8, 9);
        fill(x, 2, 2, 1, 1, 0, 1);
        x.read(0, 0);
        x.tell(0);
        x.sheet(0, 0, -1);
        return x;
    }

    /** 32 places of which the first 13 are good, 1 / 3, so that no shares are told; sheet 0 of 32 longs. */
    static PlainLines great() {
        PlainLines x = withGood(32, 0x1FFF);
        x.line(1, 3);
        fillAll(x, 0);
        x.read(0, 2);
        x.sheet(0, 0, -1);
        return x;
    }

    /** All but fault(), which the looking itself sets anew. */
    static String lookOf(PlainLines x) {
        StringBuilder look = new StringBuilder();
        for (int what = 0; what <= 5; what++) {
            look.append(what == 0 ? "told " : ", ").append(x.told(what));
        }
        look.append("; places");
        for (int place = 0; place < x.told(0); place++) {
            int bit = x.about(place, 1);
            look.append(bit == PlainLines.NONE ? " good" : " " + bit);
        }
        look.append("; passed ").append(x.passed()).append("; paths");
        for (int i = 0; i < x.told(5); i++) {
            look.append(' ').append(x.path(i));
        }
        look.append("; trace ").append(x.trace());
        for (int k = 0; k < 4; k++) {
            look.append("; sheet ").append(k).append(sheetOf(x, k));
        }
        return look.toString();
    }

    private static String sheetOf(PlainLines x, int k) {
        for (int lane = 0; lane <= 2; lane++) {
            x.cell(k, 0, lane);
            if (x.fault() == 0 || x.fault() == 3) {
                return " lane " + lane + ":" + cellsOf(x, k, lane);
            }
        }
        return " nothing";
    }

    static String cellsOf(PlainLines x, int k, int lane) {
        StringBuilder cells = new StringBuilder();
        for (int i = 0; i <= 40; i++) {
            long cell = x.cell(k, i, lane);
            if (x.fault() != 0) {
                break;
            }
            cells.append(' ').append(cell);
        }
        return cells.toString();
    }

    /** How many of n things can be taken k at a time. */
    static int choices(int n, int k) {
        int choices = 1;
        for (int i = 1; i <= k; i++) {
            choices = choices * (n - i + 1) / i;
        }
        return choices;
    }
}
