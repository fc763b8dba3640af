/** The sentences of Terms, parts 2 (sheets) and 3 (telling), and of the promises 22 to 32 that name a boundary case. */
public final class SheetsBoundaryTest {
    private static final long LOST = PlainLines.LOST;
    private static final int MIN = Made.MIN;
    private static final int MAX = Made.MAX;

    public static void main(String[] args) {
        sheetsHaveNothingAtFirst();
        sheetsOfZeroToForty();
        cellsAreZeroAtFirst();
        cutToBytes();
        cutToInts();
        longsAreNotCut();
        sheetsStandApart();
        sheetSizes();
        sheetMakesANewRow();
        sheetKeepsTheRest();
        loseTwice();
        loseKeepsTheRest();
        putEdges();
        cellEdges();
        nothingIsNoCast();
        copyOfNoneAndAll();
        copyInTheSame();
        copyOfNothing();
        copyOfUnlikeLanes();
        copyBeyond();
        copyThatWouldWrap();
        traceBeginsAtZero();
        traceWraps();
        tellOfEachKind();
        tellOfTheLastPlace();
        noneIsBestWithoutShares();
        noneIsBestWhereSharesAreNotZero();
        weighOfEachKind();
        asOfEachKind();
        refusedOnesLeaveNoTrace();
        constants();
        faultAheadOfAny();
        faultOfTheLatestThatNamesOne();
        faultOfEachCallThatNamesOne();
        toldEdges();
        toldOfPathsLeft();
        fiveHundredAndTwelveCalls();
        Due.end();
    }

    private static void sheetsHaveNothingAtFirst() {
        Due.sentence("Terms 2: SHEETS 0 .. 3 have nothing (at first)");
        for (int k = 0; k <= 3; k++) {
            PlainLines x = new PlainLines();
            for (int lane = 0; lane <= 2; lane++) {
                Due.is("cell(" + k + ", 0, " + lane + ")", x.cell(k, 0, lane), LOST);
                Due.is("fault()", x.fault(), 1);
            }
            Due.is("put(" + k + ", 0, 0)", x.put(k, 0, 0), -11);
            Due.is("lose(" + k + ")", x.lose(k), 0);
        }
    }

    private static void sheetsOfZeroToForty() {
        Due.sentence("Terms 2: a row of 0 .. 40 numbers of a LANE");
        for (int n = 0; n <= 40; n++) {
            PlainLines x = new PlainLines();
            Due.is("sheet(3, 1, " + n + ")", x.sheet(3, 1, n), 1);
            Due.is("put to the last of " + n, x.put(3, n - 1, 7), n == 0 ? -13 : 1);
            Due.is("put behind the last of " + n, x.put(3, n, 7), -13);
            Due.is("cell behind the last of " + n, x.cell(3, n, 1), LOST);
            Due.is("fault()", x.fault(), 3);
        }
    }

    private static void cellsAreZeroAtFirst() {
        Due.sentence("Terms 2: numbers (0 at first)");
        for (int lane = 0; lane <= 2; lane++) {
            PlainLines x = new PlainLines();
            x.sheet(2, lane, 40);
            Due.isSame("lane " + lane, Made.cellsOf(x, 2, lane), " 0".repeat(40));
        }
    }

    private static void cutIs(int lane, long number, long cut) {
        PlainLines x = new PlainLines();
        x.sheet(0, lane, 1);
        Due.is("put of " + number, x.put(0, 0, number), 1);
        Due.is("cell in lane " + lane + " of " + number, x.cell(0, 0, lane), cut);
        Due.is("fault()", x.fault(), 0);
    }

    private static void cutToBytes() {
        Due.sentence("Terms 2: what comes to a cell is cut to its LANE: bytes");
        long[][] cuts = {{0, 0}, {127, 127}, {128, -128}, {255, -1}, {256, 0}, {257, 1}, {-128, -128}, {-129, 127},
            {-256, 0}, {Integer.MAX_VALUE, -1}, {Integer.MIN_VALUE, 0}, {1L << 32, 0}, {(1L << 40) + 200, -56},
            {Long.MAX_VALUE, -1}, {Long.MIN_VALUE, 0}};
        for (long[] cut : cuts) {
            cutIs(0, cut[0], cut[1]);
        }
    }

    private static void cutToInts() {
        Due.sentence("Terms 2: what comes to a cell is cut to its LANE: ints");
        long[][] cuts = {{0, 0}, {128, 128}, {256, 256}, {-129, -129}, {Integer.MAX_VALUE, Integer.MAX_VALUE},
            {1L << 31, Integer.MIN_VALUE}, {Integer.MIN_VALUE, Integer.MIN_VALUE},
            {-(1L << 31) - 1, Integer.MAX_VALUE}, {(1L << 32) - 1, -1}, {1L << 32, 0}, {(1L << 32) + 1, 1},
            {Long.MAX_VALUE, -1}, {Long.MIN_VALUE, 0}};
        for (long[] cut : cuts) {
            cutIs(1, cut[0], cut[1]);
        }
    }

    private static void longsAreNotCut() {
        Due.sentence("Terms 2: what comes to a cell is cut to its LANE: longs");
        for (long number : new long[] {0, 128, 1L << 31, 1L << 32, (1L << 32) + 1, -(1L << 31) - 1, Long.MAX_VALUE,
            Long.MIN_VALUE + 1}) {
            cutIs(2, number, number);
        }
        // this cell's number is that of LOST: fault() alone tells that it is no refusal
        cutIs(2, Long.MIN_VALUE, Long.MIN_VALUE);
    }

    private static void sheetsStandApart() {
        Due.sentence("Terms 2: SHEETS 0 .. 3, each with a row of its own");
        PlainLines x = new PlainLines();
        for (int k = 0; k <= 3; k++) {
            x.sheet(k, 1, 2);
        }
        for (int k = 0; k <= 3; k++) {
            x.put(k, 1, 10 + k);
        }
        x.lose(1);
        Due.is("cell(0, 1, 1)", x.cell(0, 1, 1), 10);
        Due.is("cell(1, 1, 1)", x.cell(1, 1, 1), LOST);
        Due.is("cell(2, 1, 1)", x.cell(2, 1, 1), 12);
        Due.is("cell(3, 1, 1)", x.cell(3, 1, 1), 13);
    }

    private static void sheetSizes() {
        Due.sentence("Promise 22: OUTSIDE: lane, n above 40; SIZE");
        PlainLines x = new PlainLines();
        int[][] due = {{0, 1, 0}, {40, 1, 0}, {41, -2, 0}, {MAX, -2, 0}, {-1, -14, 4}, {MIN, -14, 4}};
        for (int[] row : due) {
            x.put(3, 0, 0);
            Due.is("sheet(0, 0, " + row[0] + ")", x.sheet(0, 0, row[0]), row[1]);
            Due.is("fault()", x.fault(), row[2]);
        }
        Due.is("the last that came has 40 cells", x.put(0, 39, 1), 1);
        Due.is("sheet(0, 2, 40)", x.sheet(0, 2, 40), 1);
        Due.is("sheet(0, 3, 40)", x.sheet(0, 3, 40), -2);
        Due.is("sheet(0, -1, 40)", x.sheet(0, -1, 40), -2);
        Due.is("sheet(3, 0, 1)", x.sheet(3, 0, 1), 1);
        Due.is("sheet(4, 0, 1)", x.sheet(4, 0, 1), -1);
        Due.is("sheet(-1, 0, 1)", x.sheet(-1, 0, 1), -1);
    }

    private static void sheetMakesANewRow() {
        Due.sentence("Promise 22: A SHEET gets a new row: 1");
        PlainLines x = new PlainLines();
        long[] nines = new long[40];
        java.util.Arrays.fill(nines, 9);
        Made.fill(x, 0, 0, nines);
        Due.is("sheet(0, 0, 40) again", x.sheet(0, 0, 40), 1);
        Due.isSame("it is 0", Made.cellsOf(x, 0, 0), " 0".repeat(40));
        Made.fill(x, 0, 0, nines);
        Due.is("sheet(0, 0, 2), shorter", x.sheet(0, 0, 2), 1);
        Due.isSame("it has 2", Made.cellsOf(x, 0, 0), " 0 0");
        Due.is("sheet(0, 0, 40), longer again", x.sheet(0, 0, 40), 1);
        Due.isSame("nothing of the older one is left", Made.cellsOf(x, 0, 0), " 0".repeat(40));
        Due.is("sheet(0, 2, 1), of another LANE", x.sheet(0, 2, 1), 1);
        Due.is("cell(0, 0, 0)", x.cell(0, 0, 0), LOST);
        Due.is("fault() CAST", x.fault(), 2);
        Due.is("cell(0, 0, 2)", x.cell(0, 0, 2), 0);
        Due.is("sheet(0, 2, 0), empty", x.sheet(0, 2, 0), 1);
        Due.is("cell(0, 0, 2)", x.cell(0, 0, 2), LOST);
        Due.is("fault() INDEX, not NULL", x.fault(), 3);
    }

    private static void sheetKeepsTheRest() {
        Due.sentence("Promise 22: nothing else is other");
        PlainLines x = Made.busy();
        Due.is("sheet(3, 0, 1)", x.sheet(3, 0, 1), 1);
        Due.is("fault()", x.fault(), 0);
        Due.isSame("behind sheet(3, 0, 1)", Made.lookOf(x),
            Made.lookOf(Made.busy()).replace("sheet 3 nothing", "sheet 3 lane 0: 0"));
    }

    private static void loseTwice() {
        Due.sentence("Promise 23: A SHEET has nothing: 1; 0: it had nothing");
        for (int k = 0; k <= 3; k++) {
            PlainLines x = new PlainLines();
            Due.is("lose(" + k + ") at first", x.lose(k), 0);
            x.sheet(k, 2, 0);
            Due.is("lose(" + k + ") of an empty row", x.lose(k), 1);
            Due.is("lose(" + k + ") again", x.lose(k), 0);
            Made.fill(x, k, 0, 5, 6);
            Due.is("lose(" + k + ") of a row", x.lose(k), 1);
            Due.is("put to it", x.put(k, 0, 1), -11);
            x.sheet(k, 0, 2);
            Due.isSame("a new row has 0", Made.cellsOf(x, k, 0), " 0 0");
        }
        PlainLines x = new PlainLines();
        Due.is("lose(4)", x.lose(4), -1);
        Due.is("lose(-1)", x.lose(-1), -1);
    }

    private static void loseKeepsTheRest() {
        Due.sentence("Promise 23: nothing else is other; it names no FAULTS");
        PlainLines x = Made.busy();
        Due.is("lose(1)", x.lose(1), 1);
        Due.is("fault()", x.fault(), 4);
        Due.isSame("behind lose(1)", Made.lookOf(x),
            Made.lookOf(Made.busy()).replace("sheet 1 lane 1: 7 8 9", "sheet 1 nothing"));
        PlainLines same = Made.busy();
        Due.is("lose(3)", same.lose(3), 0);
        Due.is("fault()", same.fault(), 4);
        Due.isSame("behind lose(3)", Made.lookOf(same), Made.lookOf(Made.busy()));
    }

    private static void putEdges() {
        Due.sentence("Promise 24: Cell i of a SHEET becomes v: 1. UNKNOWN; NULL; INDEX");
        PlainLines x = Made.busy();
        Due.is("put(0, 4, 1), the last", x.put(0, 4, 1), 1);
        Due.is("fault()", x.fault(), 0);
        Due.is("put(0, 0, 1), the first", x.put(0, 0, 1), 1);
        Due.isSame("behind both", Made.cellsOf(x, 0, 0), " 1 3 0 5 1");
        for (int i : new int[] {-1, 5, 40, 41, MIN, MAX}) {
            Due.is("put(0, " + i + ", 1)", x.put(0, i, 1), -13);
            Due.is("fault() INDEX", x.fault(), 3);
        }
        Due.is("put(3, 0, 1)", x.put(3, 0, 1), -11);
        Due.is("put(3, -1, 1)", x.put(3, -1, 1), -11);
        Due.is("put(4, 0, 1)", x.put(4, 0, 1), -1);
        Due.is("fault() of a refusal", x.fault(), 0);
        Due.isSame("behind all", Made.cellsOf(x, 0, 0), " 1 3 0 5 1");
    }

    private static void cellEdges() {
        Due.sentence("Promise 25: LOST: UNKNOWN, OUTSIDE: lane; FAULTS CAST, NULL, INDEX");
        PlainLines x = Made.busy();
        Due.is("cell(0, 4, 0), the last", x.cell(0, 4, 0), 6);
        Due.is("fault()", x.fault(), 0);
        Due.is("cell(0, 0, 0), the first", x.cell(0, 0, 0), 2);
        int[][] due = {{0, 5, 0, 3}, {0, -1, 0, 3}, {0, MIN, 0, 3}, {0, MAX, 0, 3}, {0, 0, 1, 2}, {0, 5, 2, 2},
            {3, 0, 0, 1}, {3, -1, 2, 1}, {0, 0, 3, 0}, {0, 0, -1, 0}, {4, 0, 0, 0}, {-1, 0, 0, 0}};
        for (int[] row : due) {
            String call = "cell(" + row[0] + ", " + row[1] + ", " + row[2] + ")";
            x.sheet(0, 0, -1);
            Due.is(call, x.cell(row[0], row[1], row[2]), LOST);
            Due.is("fault() behind " + call, x.fault(), row[3]);
        }
    }

    private static void nothingIsNoCast() {
        Due.sentence("Promises 14, 17, 25: CAST (nothing is no CAST)");
        PlainLines x = new PlainLines();
        for (int lane = 0; lane <= 2; lane++) {
            // a sheet that had a row of another lane is nothing all the same
            x.sheet(0, (lane + 1) % 3, 8);
            x.lose(0);
            Due.is("read(0, " + lane + ")", x.read(0, lane), -11);
            Due.is("fault()", x.fault(), 1);
            Due.is("nearest(0, " + lane + ", 0)", x.nearest(0, lane, 0), LOST);
            Due.is("fault()", x.fault(), 1);
            Due.is("cell(0, 0, " + lane + ")", x.cell(0, 0, lane), LOST);
            Due.is("fault()", x.fault(), 1);
        }
    }

    private static void copyOfNoneAndAll() {
        Due.sentence("Promise 26: n cells of a SHEET from i on go to another one from j on: n");
        for (int lane = 0; lane <= 2; lane++) {
            PlainLines x = new PlainLines();
            long[] cells = new long[40];
            for (int i = 0; i < 40; i++) {
                cells[i] = i - 20;
            }
            Made.fill(x, 0, lane, cells);
            x.sheet(1, lane, 40);
            Due.is("copy of none", x.copy(0, 0, 1, 0, 0), 0);
            Due.is("fault()", x.fault(), 0);
            Due.is("copy of none, behind the last", x.copy(0, 40, 1, 40, 0), 0);
            Due.is("fault()", x.fault(), 0);
            Due.is("none came", x.cell(1, 0, lane), 0);
            Due.is("copy of the last to the first", x.copy(0, 39, 1, 0, 1), 1);
            Due.is("it came", x.cell(1, 0, lane), 19);
            Due.is("copy of the first to the last", x.copy(0, 0, 1, 39, 1), 1);
            Due.is("it came", x.cell(1, 39, lane), -20);
            Due.is("copy of all", x.copy(0, 0, 1, 0, 40), 40);
            Due.isSame("all came", Made.cellsOf(x, 1, lane), Made.cellsOf(x, 0, lane));
        }
        PlainLines empty = new PlainLines();
        empty.sheet(0, 0, 0);
        empty.sheet(1, 0, 0);
        Due.is("copy of an empty row", empty.copy(0, 0, 1, 0, 0), 0);
        Due.is("copy of one of an empty row", empty.copy(0, 0, 1, 0, 1), -13);
    }

    private static void copyIs(int i, int j, int n, String cells) {
        PlainLines x = new PlainLines();
        Made.fill(x, 0, 0, 1, 2, 3, 4, 5);
        Due.is("copy(0, " + i + ", 0, " + j + ", " + n + ")", x.copy(0, i, 0, j, n), n);
        Due.isSame("from " + i + " to " + j, Made.cellsOf(x, 0, 0), cells);
    }

    private static void copyInTheSame() {
        Due.sentence("Promise 26: perhaps the same, as they were");
        copyIs(0, 1, 4, " 1 1 2 3 4");
        copyIs(1, 0, 4, " 2 3 4 5 5");
        copyIs(0, 2, 3, " 1 2 1 2 3");
        copyIs(2, 0, 3, " 3 4 5 4 5");
        copyIs(0, 0, 5, " 1 2 3 4 5");
        copyIs(0, 4, 1, " 1 2 3 4 1");
        copyIs(5, 5, 0, " 1 2 3 4 5");
    }

    private static void copyDue(PlainLines x, int answer, int k, int i, int other, int j, int n) {
        String call = "copy(" + k + ", " + i + ", " + other + ", " + j + ", " + n + ")";
        x.sheet(0, 0, -1);
        Due.is(call, x.copy(k, i, other, j, n), answer);
        Due.is("fault() behind " + call, x.fault(), answer < -10 ? -10 - answer : 0);
    }

    private static void copyOfNothing() {
        Due.sentence("Promise 26: FAULTS NULL (the first, the other)");
        PlainLines x = Made.busy();
        copyDue(x, -11, 3, 0, 0, 0, 0);
        copyDue(x, -11, 0, 0, 3, 0, 0);
        copyDue(x, -11, 3, 0, 3, 0, 0);
        copyDue(x, -11, 3, -1, 1, -1, -1);
        copyDue(x, -11, 1, -1, 3, -1, -1);
        copyDue(x, -1, 3, 0, 4, 0, 0);
        copyDue(x, -1, 4, 0, 3, 0, 0);
        copyDue(x, -1, -1, 0, 0, 0, 0);
        copyDue(x, -1, 0, 0, -1, 0, 0);
        x.sheet(1, 0, 3);
        x.lose(0);
        copyDue(x, -11, 0, 0, 1, 0, 1);
        copyDue(x, -11, 1, 0, 0, 0, 1);
    }

    private static void copyOfUnlikeLanes() {
        Due.sentence("Promise 26: CAST (unlike LANES)");
        PlainLines x = Made.busy();
        for (int k = 0; k <= 2; k++) {
            copyDue(x, 0, k, 0, k, 0, 0);
            copyDue(x, -12, k, 0, (k + 1) % 3, 0, 0);
            copyDue(x, -12, k, 0, (k + 2) % 3, 0, 1);
            copyDue(x, -12, k, -1, (k + 2) % 3, 99, 1);
        }
    }

    private static void copyBeyond() {
        Due.sentence("Promise 26: INDEX: i, j, n below 0 or beyond");
        PlainLines x = new PlainLines();
        Made.fill(x, 0, 0, 1, 2, 3, 4, 5);
        Made.fill(x, 1, 0, 7, 8, 9);
        copyDue(x, -13, 0, -1, 1, 0, 1);
        copyDue(x, -13, 0, 0, 1, -1, 1);
        copyDue(x, -13, 0, 0, 1, 0, -1);
        copyDue(x, -13, 0, -1, 1, 0, 0);
        copyDue(x, -13, 0, 0, 1, -1, 0);
        copyDue(x, -13, 0, 6, 1, 0, 0);
        copyDue(x, -13, 0, 0, 1, 4, 0);
        copyDue(x, -13, 0, 5, 1, 0, 1);
        copyDue(x, -13, 0, 0, 1, 3, 1);
        copyDue(x, -13, 0, 0, 1, 0, 4);
        copyDue(x, -13, 1, 0, 0, 0, 4);
        copyDue(x, -13, 0, 3, 1, 0, 3);
        copyDue(x, -13, 0, 0, 1, 1, 3);
        Due.isSame("nothing came", Made.cellsOf(x, 1, 0), " 7 8 9");
        copyDue(x, 3, 0, 2, 1, 0, 3);
        Due.isSame("just as many as there are", Made.cellsOf(x, 1, 0), " 3 4 5");
        copyDue(x, 0, 0, 5, 1, 3, 0);
    }

    private static void copyThatWouldWrap() {
        Due.sentence("Promise 26: INDEX: i, j, n beyond, where their sums wrap");
        PlainLines x = new PlainLines();
        Made.fill(x, 0, 0, 1, 2, 3, 4, 5);
        Made.fill(x, 1, 0, 7, 8, 9);
        copyDue(x, -13, 0, MAX, 1, 0, 1);
        copyDue(x, -13, 0, 0, 1, MAX, 1);
        copyDue(x, -13, 0, 1, 1, 0, MAX);
        copyDue(x, -13, 0, 0, 1, 1, MAX);
        copyDue(x, -13, 0, MAX, 1, MAX, MAX);
        copyDue(x, -13, 0, MIN, 1, 0, 1);
        copyDue(x, -13, 0, 0, 1, MIN, 1);
        copyDue(x, -13, 0, 0, 1, 0, MIN);
        copyDue(x, -13, 0, MIN, 1, MIN, MIN);
        copyDue(x, -13, 0, 2, 1, 2, MIN);
        Due.isSame("nothing came", Made.cellsOf(x, 1, 0), " 7 8 9");
    }

    private static void traceBeginsAtZero() {
        Due.sentence("Promise 30, Terms 3: TRACE, 0 at first, becomes 31 times it and the number");
        PlainLines x = new PlainLines();
        Due.is("trace()", x.trace(), 0);
        x.tell(0);
        Due.is("trace() behind a FROZEN one", x.trace(), 1);
        x.weigh(0);
        Due.is("trace() behind the lent body", x.trace(), 35);
        Due.is("trace() again", x.trace(), 35);
    }

    private static void traceWraps() {
        Due.sentence("Terms 3: TRACE, an int that wraps");
        PlainLines x = Made.withGood(8, 1);
        long exact = 0;
        for (int i = 0; i < 6; i++) {
            x.weigh(0);
            exact = 31 * exact + 5;
        }
        Due.is("trace(), not wrapped yet", x.trace(), exact);
        exact = 31 * exact + 5;
        x.weigh(0);
        Due.isTrue("the next is too great for an int", exact > Integer.MAX_VALUE);
        Due.is("trace(), wrapped once", x.trace(), (int) exact);
        boolean wasBelow = false;
        for (int i = 0; i < 100; i++) {
            x.weigh(0);
            exact = (int) (31 * exact + 5);
            wasBelow |= exact < 0;
            Due.is("trace() behind " + (i + 8), x.trace(), exact);
        }
        Due.isTrue("it was below 0, too", wasBelow);
    }

    private static void tellOfEachKind() {
        Due.sentence("Promise 27, Terms 3: FROZEN (1): its bit; GOOD (2): 10 more; BEST (3): GOOD's, twice");
        PlainLines x = Made.withGood(8, 0b1);
        x.freeze(1, 1);
        Due.is("FROZEN to 0", x.tell(7), 0);
        Due.is("trace()", x.trace(), 1);
        Due.is("FROZEN to 1", x.tell(1), 1);
        Due.is("trace()", x.trace(), 32);
        Due.is("GOOD", x.tell(0), 10);
        Due.is("trace()", x.trace(), 32 * 31 + 2);
        x.line(0, 1);
        Due.is("BEST", x.tell(0), 20);
        Due.is("trace(): BEST's, then GOOD's", x.trace(), ((32 * 31 + 2) * 31 + 3) * 31 + 2);
        Due.is("FROZEN, with SHARE 0", x.tell(1), 1);
        Due.is("trace()", x.trace(), (((32 * 31 + 2) * 31 + 3) * 31 + 2) * 31 + 1);
    }

    private static void tellOfTheLastPlace() {
        Due.sentence("Promise 27: UNKNOWN");
        for (int n : Made.SIZES) {
            PlainLines x = Made.withGood(n, 1L << (n - 1));
            Due.is("tell(N - 1) of " + n, x.tell(n - 1), n + 9);
            Due.is("tell(N) of " + n, x.tell(n), -1);
            Due.is("tell(-1) of " + n, x.tell(-1), -1);
            Due.is("tell(MIN) of " + n, x.tell(MIN), -1);
            Due.is("tell(MAX) of " + n, x.tell(MAX), -1);
            Due.is("trace()", x.trace(), 2);
        }
    }

    private static void noneIsBestWithoutShares() {
        Due.sentence("Terms 3: Where no SHARES are told none is BEST");
        PlainLines x = Made.withGood(32, 1L << 31);
        for (int q = 1; q <= 8; q++) {
            x.line(0, q);
            boolean told = q <= 2;
            Due.is("tell(31) of 0 / " + q, x.tell(31), told ? 82 : 41);
            Due.is("as(31, 2) of 0 / " + q, x.as(31, 2), told ? 1 : -12);
            Due.is("as(31, 1) of 0 / " + q, x.as(31, 1), 1);
        }
        x.size(16);
        x.good(15);
        Due.is("as(15, 2) of 0 / 8, 16 places", x.as(15, 2), 1);
    }

    private static void noneIsBestWhereSharesAreNotZero() {
        Due.sentence("Terms 3: A BEST one: a GOOD one, with SHARE 0");
        for (int n : new int[] {2, 16}) {
            for (int q = 1; q <= 8; q++) {
                PlainLines x = Made.withGood(n, 1L << (n - 1));
                x.line(0, q);
                Due.is("as(N - 1, 2) of 0 / " + q, x.as(n - 1, 2), 1);
                Due.is("as(0, 2) of 0 / " + q + ", FROZEN", x.as(0, 2), -12);
                x.line(1, q);
                Due.is("as(N - 1, 2) of 1 / " + q, x.as(n - 1, 2), -12);
                x.line(q, q);
                Due.is("as(N - 1, 2) of " + q + " / " + q, x.as(n - 1, 2), -12);
            }
        }
    }

    private static void weighOfEachKind() {
        Due.sentence("Promise 28, Terms 3: WEIGHED (4): the PLACE; GOOD (5): N less it; a BEST one has GOOD's");
        for (int n : Made.SIZES) {
            PlainLines x = Made.withGood(n, 1);
            Due.is("weigh(N - 1), FROZEN", x.weigh(n - 1), n - 1);
            Due.is("trace()", x.trace(), 4);
            Due.is("weigh(0), GOOD", x.weigh(0), n);
            Due.is("trace()", x.trace(), 4 * 31 + 5);
            x.line(0, 1);
            Due.is("weigh(0), BEST", x.weigh(0), n);
            Due.is("trace()", x.trace(), (4 * 31 + 5) * 31 + 5);
            x.good(n - 1);
            Due.is("weigh(N - 1), BEST", x.weigh(n - 1), 1);
            x.freeze(0, 1);
            Due.is("weigh(0), FROZEN to 1", x.weigh(0), 0);
            Due.is("weigh(N)", x.weigh(n), -1);
            Due.is("weigh(-1)", x.weigh(-1), -1);
            Due.is("weigh(MIN)", x.weigh(MIN), -1);
            Due.is("weigh(MAX)", x.weigh(MAX), -1);
            Due.is("trace()", x.trace(), (((4 * 31 + 5) * 31 + 5) * 31 + 5) * 31 + 4);
        }
    }

    private static void asOfEachKind() {
        Due.sentence("Promise 29: taken as 0 FROZEN, 1 GOOD, 2 BEST: 1; CAST: it is none (a BEST one is GOOD, too)");
        PlainLines x = Made.withGood(8, 0b10);
        int[][] due = {{0, 1, -12, -12}, {1, -12, 1, -12}};
        int[][] dueOfNoneLost = {{0, 1, -12, -12}, {1, -12, 1, 1}};
        asAre(x, due);
        x.line(0, 8);
        asAre(x, dueOfNoneLost);
        Due.is("trace()", x.trace(), 0);
    }

    private static void asAre(PlainLines x, int[][] due) {
        for (int[] row : due) {
            for (int kind = 0; kind <= 2; kind++) {
                String call = "as(" + row[0] + ", " + kind + ")";
                x.sheet(0, 0, -1);
                Due.is(call, x.as(row[0], kind), row[kind + 1]);
                Due.is("fault() behind " + call, x.fault(), row[kind + 1] == 1 ? 0 : 2);
            }
            Due.is("as(" + row[0] + ", 3)", x.as(row[0], 3), -2);
            Due.is("as(" + row[0] + ", -1)", x.as(row[0], -1), -2);
            Due.is("fault()", x.fault(), 0);
        }
    }

    private static void refusedOnesLeaveNoTrace() {
        Due.sentence("Promises 27 to 29: refused ones change nothing");
        PlainLines x = Made.busy();
        x.tell(4);
        x.tell(-1);
        x.weigh(4);
        x.weigh(-1);
        x.as(4, 0);
        x.as(0, 3);
        x.as(0, 2);
        Due.is("trace()", x.trace(), 1);
    }

    private static void constants() {
        Due.sentence("The public face: the constants; Terms: NONE is -9");
        Due.is("UNKNOWN", PlainLines.UNKNOWN, -1);
        Due.is("OUTSIDE", PlainLines.OUTSIDE, -2);
        Due.is("STATE", PlainLines.STATE, -3);
        Due.is("NONE", PlainLines.NONE, -9);
        Due.is("LOST", PlainLines.LOST, Long.MIN_VALUE);
    }

    private static void faultAheadOfAny() {
        Due.sentence("Promise 31: 0 ahead of any");
        PlainLines x = new PlainLines();
        Due.is("fault()", x.fault(), 0);
        x.good(9);
        x.word(-1);
        x.passed();
        x.lose(4);
        Due.is("fault() behind calls that name none", x.fault(), 0);
    }

    private static void faultOfTheLatestThatNamesOne() {
        Due.sentence("Promise 31: The FAULT of the latest call that names one");
        PlainLines x = Made.busy();
        x.share(9);
        x.lower();
        x.about(9, 9);
        x.word(-1);
        x.fold(-1);
        x.wide(0);
        x.check(-1);
        x.path(9);
        x.passed();
        x.count(9);
        x.across(9);
        x.fails(9);
        x.lose(9);
        x.tell(9);
        x.weigh(9);
        x.trace();
        x.fault();
        x.told(9);
        Due.is("refused calls that name none keep it", x.fault(), 4);
        x.share(0);
        x.word(0);
        x.fold(0);
        x.path(0);
        x.count(0);
        x.across(0);
        x.fails(0);
        x.tell(0);
        x.weigh(0);
        x.wide(1);
        x.check(0);
        x.line(1, 2);
        x.lose(3);
        x.good(0);
        x.freeze(0, 0);
        x.choose(2);
        x.size(4);
        Due.is("calls that name none keep it", x.fault(), 4);
    }

    private static void faultOfEachCallThatNamesOne() {
        Due.sentence("Promise 31: 0: it came to none, or was refused");
        PlainLines x = Made.busy();
        String[] names = {"read", "nearest", "send", "sheet", "put", "cell", "copy", "as"};
        for (int call = 0; call < names.length; call++) {
            for (int way = 0; way <= 1; way++) {
                x.sheet(0, 0, -1);
                Due.is("fault() SIZE", x.fault(), 4);
                callThatNamesFaults(x, call, way == 0 ? 2 : 4);
                Due.is("fault() behind " + names[call] + (way == 0 ? "" : " refused"), x.fault(), 0);
            }
        }
    }

    /** With k 2 it comes to no fault, with k 4 it is refused. */
    private static void callThatNamesFaults(PlainLines x, int call, int k) {
        switch (call) {
            case 0 -> x.read(k, 2);
            case 1 -> x.nearest(k, 2, 0);
            case 2 -> x.send(k, 0, 0, 0);
            case 3 -> x.sheet(k, 2, 4);
            case 4 -> x.put(k, 0, 0);
            case 5 -> x.cell(k, 0, 2);
            case 6 -> x.copy(k, 0, k, 1, 1);
            default -> x.as(k, 0);
        }
    }

    private static void toldEdges() {
        Due.sentence("Promise 32: 0 N, 1 K, 2 p, 3 q, 4 W. OUTSIDE");
        PlainLines x = Made.withGood(32, 0xFFFFFFFFL);
        x.line(8, 8);
        x.wide(64);
        int[] most = {32, 32, 8, 8, 64, -9};
        for (int what = 0; what <= 5; what++) {
            Due.is("told(" + what + ")", x.told(what), most[what]);
        }
        x.size(2);
        x.line(0, 1);
        x.wide(1);
        int[] least = {2, 0, 0, 1, 1, -9};
        for (int what = 0; what <= 5; what++) {
            Due.is("told(" + what + ")", x.told(what), least[what]);
        }
        for (int what : new int[] {-1, 6, MIN, MAX}) {
            Due.is("told(" + what + ")", x.told(what), -2);
        }
    }

    private static void toldOfPathsLeft() {
        Due.sentence("Promise 32: 5 PATHS left (NONE: nothing is READ)");
        PlainLines x = Made.withGood(8, 0b11111110);
        Due.is("told(5), nothing READ", x.told(5), -9);
        x.wide(64);
        Made.fillAll(x, 2);
        Due.is("told(5), nothing READ yet", x.told(5), -9);
        x.read(0, 2);
        Due.is("told(5), full", x.told(5), 64);
        x.sheet(0, 2, 8);
        x.put(0, 0, 1);
        x.read(0, 2);
        Due.is("told(5), none left", x.told(5), 0);
        x.put(0, 0, 0);
        x.read(0, 2);
        Due.is("told(5), one left", x.told(5), 1);
        x.read(3, 0);
        Due.is("told(5) behind a FAULT", x.told(5), 1);
        x.size(8);
        Due.is("told(5) of what went", x.told(5), -9);
    }

    /** What the 512th call answers is still told; new rows, readings and counts are asked for until then. */
    private static void fiveHundredAndTwelveCalls() {
        Due.sentence("What it is: An object is used for at most 512 calls");
        PlainLines x = new PlainLines();
        for (int call = 1; call <= 512; call++) {
            Due.is("sheet, call " + call, x.sheet(call % 4, call % 3, 40), 1);
        }
        PlainLines y = new PlainLines();
        for (int call = 0; call < 511; call++) {
            y.tell(call % 8);
        }
        Due.is("trace(), call 512", y.trace(), traceOfOnes(511));
        PlainLines z = new PlainLines();
        z.sheet(0, 0, 8);
        for (int round = 0; round < 127; round++) {
            z.good(round % 8);
            z.freeze(round % 8, 0);
            z.read(0, 0);
            z.fails(round % 9);
        }
        Due.is("read, call 510", z.read(0, 0), 1);
        Due.is("path, call 511", z.path(0), 0);
        Due.is("count, call 512", z.count(0), 1);
    }

    private static int traceOfOnes(int bodies) {
        int trace = 0;
        for (int i = 0; i < bodies; i++) {
            trace = 31 * trace + 1;
        }
        return trace;
    }
}
