/**
 * Terms: refusals and faults, call by call: the answer, fault() behind it, and that nothing else is other
 * than in a twin without the call.
 */
public final class RefusalsTest {
    private static final long LOST = PlainLines.LOST;
    private static final int MIN = Made.MIN;
    private static final int MAX = Made.MAX;
    private static final int[] NO_PLACES = {-1, 4, 8, MIN, MAX};
    private static final int[] NO_SHEETS = {-1, 4, MIN, MAX};
    private static final int[] NO_LANES = {-1, 3, MIN, MAX};

    /** What stays in fault() behind a call that names no faults: that of Made.busy() and Made.great(). */
    private static final int KEPT = 4;

    private interface Call {
        long on(PlainLines x);
    }

    private interface State {
        PlainLines made();
    }

    public static void main(String[] args) {
        theStatesAreAsTold();
        unknownPlaces();
        unknownSheets();
        unknownPaths();
        outsideOfPlaces();
        outsideOfReading();
        outsideOfCounts();
        outsideOfSheets();
        stateOfNothingRead();
        stateOfSharesNotTold();
        stateOfTooManyPlaces();
        faultNull();
        faultCast();
        faultIndex();
        faultSize();
        theFirstRefusalInOrder();
        refusalsAheadOfFaults();
        theFirstFaultInOrder();
        askingChangesNothing();
        Due.end();
    }

    private static void dueIn(State state, String name, long answer, int fault, Call call) {
        PlainLines x = state.made();
        Due.is(name, call.on(x), answer);
        Due.is("fault() behind " + name, x.fault(), fault);
        Due.isSame("behind " + name, Made.lookOf(x), Made.lookOf(state.made()));
    }

    private static void due(String name, long answer, int fault, Call call) {
        dueIn(Made::busy, name, answer, fault, call);
    }

    private static void greatDue(String name, long answer, int fault, Call call) {
        dueIn(Made::great, name, answer, fault, call);
    }

    private static void theStatesAreAsTold() {
        Due.sentence("the states that these tests begin from");
        PlainLines busy = Made.busy();
        Due.is("fault() of busy", busy.fault(), KEPT);
        Due.isSame("busy", Made.lookOf(busy), "told 4, 2, 1, 3, 3, 2; places 0 good 1 good; passed 1; paths 2 3; "
            + "trace 1; sheet 0 lane 0: 2 3 0 5 6; sheet 1 lane 1: 7 8 9; sheet 2 lane 2: 1 1 0 1; sheet 3 nothing");
        PlainLines great = Made.great();
        Due.is("fault() of great", great.fault(), KEPT);
        Due.is("N of great", great.told(0), 32);
        Due.is("K of great", great.told(1), 13);
        Due.is("paths of great", great.told(5), 1);
    }

    private static void unknownPlaces() {
        Due.sentence("Terms: UNKNOWN (there is no such place)");
        for (int place : NO_PLACES) {
            due("share(" + place + ")", LOST, KEPT, x -> x.share(place));
            due("good(" + place + ")", -1, KEPT, x -> x.good(place));
            due("freeze(" + place + ", 1)", -1, KEPT, x -> x.freeze(place, 1));
            for (int what = 0; what <= 2; what++) {
                int asked = what;
                due("about(" + place + ", " + what + ")", -1, KEPT, x -> x.about(place, asked));
                due("as(" + place + ", " + what + ")", -1, 0, x -> x.as(place, asked));
            }
            due("tell(" + place + ")", -1, KEPT, x -> x.tell(place));
            due("weigh(" + place + ")", -1, KEPT, x -> x.weigh(place));
        }
        greatDue("good(32)", -1, KEPT, x -> x.good(32));
        greatDue("tell(32)", -1, KEPT, x -> x.tell(32));
    }

    private static void unknownSheets() {
        Due.sentence("Terms: UNKNOWN (there is no such SHEET)");
        for (int k : NO_SHEETS) {
            due("read(" + k + ", 0)", -1, 0, x -> x.read(k, 0));
            due("nearest(" + k + ", 0, 0)", LOST, 0, x -> x.nearest(k, 0, 0));
            due("send(" + k + ", 1, 1, 1)", -1, 0, x -> x.send(k, 1, 1, 1));
            due("sheet(" + k + ", 0, 1)", -1, 0, x -> x.sheet(k, 0, 1));
            due("lose(" + k + ")", -1, KEPT, x -> x.lose(k));
            due("put(" + k + ", 0, 1)", -1, 0, x -> x.put(k, 0, 1));
            due("cell(" + k + ", 0, 0)", LOST, 0, x -> x.cell(k, 0, 0));
            due("copy(" + k + ", 0, 0, 1, 1)", -1, 0, x -> x.copy(k, 0, 0, 1, 1));
            due("copy(0, 0, " + k + ", 1, 1)", -1, 0, x -> x.copy(0, 0, k, 1, 1));
        }
    }

    private static void unknownPaths() {
        Due.sentence("Terms: UNKNOWN (there is no such PATH)");
        for (int i : new int[] {-1, 2, 3, 64, MIN, MAX}) {
            due("path(" + i + ")", LOST, KEPT, x -> x.path(i));
        }
    }

    private static void outsideOfPlaces() {
        Due.sentence("Terms: OUTSIDE, of size, line, freeze, choose, about, word, fold");
        for (int n : new int[] {MIN, -4, -2, -1, 0, 1, 3, 5, 6, 7, 9, 12, 15, 17, 24, 31, 33, 64, MAX}) {
            due("size(" + n + ")", -2, KEPT, x -> x.size(n));
        }
        int[][] noShares = {{0, 0}, {-1, 2}, {3, 2}, {0, 9}, {9, 9}, {0, -1}, {-1, -1}, {MIN, 8}, {MAX, 8},
            {0, MIN}, {0, MAX}, {MAX, MAX}, {MIN, MIN}, {9, 8}, {2, 1}};
        for (int[] pq : noShares) {
            due("line(" + pq[0] + ", " + pq[1] + ")", -2, KEPT, x -> x.line(pq[0], pq[1]));
        }
        for (int bit : new int[] {-1, 2, MIN, MAX}) {
            due("freeze(1, " + bit + ")", -2, KEPT, x -> x.freeze(1, bit));
        }
        for (int k : new int[] {-1, 5, MIN, MAX}) {
            due("choose(" + k + ")", LOST, KEPT, x -> x.choose(k));
        }
        for (int what : new int[] {-1, 3, MIN, MAX}) {
            due("about(1, " + what + ")", -2, KEPT, x -> x.about(1, what));
        }
        for (long message : new long[] {-1, 4, 1L << 32, Long.MIN_VALUE, Long.MAX_VALUE}) {
            due("word(" + message + ")", LOST, KEPT, x -> x.word(message));
        }
        for (long row : new long[] {-1, 16, 1L << 32, Long.MIN_VALUE, Long.MAX_VALUE}) {
            due("fold(" + row + ")", LOST, KEPT, x -> x.fold(row));
        }
    }

    private static void outsideOfReading() {
        Due.sentence("Terms: OUTSIDE, of wide, check, read, nearest, send");
        for (int w : new int[] {0, -1, 65, MIN, MAX}) {
            due("wide(" + w + ")", -2, KEPT, x -> x.wide(w));
        }
        for (long m : new long[] {-1, 1L << 32, (1L << 32) + 1, Long.MIN_VALUE, Long.MAX_VALUE}) {
            due("check(" + m + ")", -2, KEPT, x -> x.check(m));
        }
        for (int lane : NO_LANES) {
            due("read(0, " + lane + ")", -2, 0, x -> x.read(0, lane));
            due("nearest(2, " + lane + ", 0)", LOST, 0, x -> x.nearest(2, lane, 0));
        }
        for (int which : new int[] {-1, 2, MIN, MAX}) {
            due("nearest(2, 2, " + which + ")", LOST, 0, x -> x.nearest(2, 2, which));
        }
        for (long message : new long[] {-1, 4, 1L << 32, Long.MIN_VALUE, Long.MAX_VALUE}) {
            due("send(0, " + message + ", 0, 0)", -2, 0, x -> x.send(0, message, 0, 0));
        }
        for (long row : new long[] {-1, 16, 1L << 32, Long.MIN_VALUE, Long.MAX_VALUE}) {
            due("send(0, 1, " + row + ", 0)", -2, 0, x -> x.send(0, 1, row, 0));
            due("send(0, 1, 0, " + row + ")", -2, 0, x -> x.send(0, 1, 0, row));
        }
    }

    private static void outsideOfCounts() {
        Due.sentence("Terms: OUTSIDE, of count, across, fails");
        for (int w : new int[] {-1, 5, 16, 17, 32, 33, MIN, MAX}) {
            due("count(" + w + ")", -2, KEPT, x -> x.count(w));
            due("across(" + w + ")", -2, KEPT, x -> x.across(w));
            due("fails(" + w + ")", -2, KEPT, x -> x.fails(w));
        }
    }

    private static void outsideOfSheets() {
        Due.sentence("Terms: OUTSIDE, of sheet, cell, as, told");
        for (int lane : NO_LANES) {
            due("sheet(0, " + lane + ", 1)", -2, 0, x -> x.sheet(0, lane, 1));
            due("cell(0, 0, " + lane + ")", LOST, 0, x -> x.cell(0, 0, lane));
        }
        due("sheet(0, 0, 41)", -2, 0, x -> x.sheet(0, 0, 41));
        due("sheet(0, 0, MAX)", -2, 0, x -> x.sheet(0, 0, MAX));
        for (int kind : new int[] {-1, 3, MIN, MAX}) {
            due("as(1, " + kind + ")", -2, 0, x -> x.as(1, kind));
            due("as(0, " + kind + ")", -2, 0, x -> x.as(0, kind));
        }
        for (int what : new int[] {-1, 6, MIN, MAX}) {
            due("told(" + what + ")", -2, KEPT, x -> x.told(what));
        }
    }

    private static void stateOfNothingRead() {
        Due.sentence("Terms: STATE, of path and passed where nothing is READ");
        for (int i : new int[] {-1, 0, 1, MAX}) {
            dueIn(PlainLines::new, "path(" + i + ")", LOST, 0, x -> x.path(i));
        }
        dueIn(PlainLines::new, "passed()", -3, 0, PlainLines::passed);
    }

    private static void stateOfSharesNotTold() {
        Due.sentence("Terms: STATE, of share, lower, choose where q to the N is above 10^15");
        greatDue("share(0)", LOST, KEPT, x -> x.share(0));
        greatDue("share(31)", LOST, KEPT, x -> x.share(31));
        greatDue("lower()", LOST, KEPT, PlainLines::lower);
        for (int k : new int[] {0, 1, 13, 32, 33, -1}) {
            greatDue("choose(" + k + ")", LOST, KEPT, x -> x.choose(k));
        }
    }

    private static void stateOfTooManyPlaces() {
        Due.sentence("Terms: STATE, of nearest and count where K is above 12, of across and fails where N is 32");
        greatDue("nearest(0, 2, 0)", LOST, 0, x -> x.nearest(0, 2, 0));
        greatDue("nearest(0, 2, 1)", LOST, 0, x -> x.nearest(0, 2, 1));
        for (int w : new int[] {0, 16, 32}) {
            greatDue("count(" + w + ")", -3, KEPT, x -> x.count(w));
            greatDue("across(" + w + ")", -3, KEPT, x -> x.across(w));
            greatDue("fails(" + w + ")", -3, KEPT, x -> x.fails(w));
        }
    }

    private static void faultNull() {
        Due.sentence("Terms: FAULTS 1 NULL (there is nothing)");
        for (int lane = 0; lane <= 2; lane++) {
            int taken = lane;
            due("read(3, " + lane + ")", -11, 1, x -> x.read(3, taken));
            due("nearest(3, " + lane + ", 0)", LOST, 1, x -> x.nearest(3, taken, 0));
            due("cell(3, 0, " + lane + ")", LOST, 1, x -> x.cell(3, 0, taken));
        }
        due("send(3, 0, 0, 0)", -11, 1, x -> x.send(3, 0, 0, 0));
        due("put(3, 0, 1)", -11, 1, x -> x.put(3, 0, 1));
        due("copy(3, 0, 0, 0, 1)", -11, 1, x -> x.copy(3, 0, 0, 0, 1));
        due("copy(0, 0, 3, 0, 1)", -11, 1, x -> x.copy(0, 0, 3, 0, 1));
        due("copy(3, 0, 3, 0, 0)", -11, 1, x -> x.copy(3, 0, 3, 0, 0));
    }

    private static void faultCast() {
        Due.sentence("Terms: FAULTS 2 CAST (it is of another LANE, kind)");
        for (int k = 0; k <= 2; k++) {
            int sheet = k;
            int other = (k + 1) % 3;
            int third = (k + 2) % 3;
            due("read(" + k + ", " + other + ")", -12, 2, x -> x.read(sheet, other));
            due("read(" + k + ", " + third + ")", -12, 2, x -> x.read(sheet, third));
            due("nearest(" + k + ", " + other + ", 1)", LOST, 2, x -> x.nearest(sheet, other, 1));
            due("nearest(" + k + ", " + third + ", 0)", LOST, 2, x -> x.nearest(sheet, third, 0));
            due("cell(" + k + ", 0, " + other + ")", LOST, 2, x -> x.cell(sheet, 0, other));
            due("cell(" + k + ", 0, " + third + ")", LOST, 2, x -> x.cell(sheet, 0, third));
            due("copy(" + k + ", 0, " + other + ", 0, 1)", -12, 2, x -> x.copy(sheet, 0, other, 0, 1));
            due("copy(" + k + ", 0, " + third + ", 0, 0)", -12, 2, x -> x.copy(sheet, 0, third, 0, 0));
        }
        due("as(0, 1) of a FROZEN one", -12, 2, x -> x.as(0, 1));
        due("as(0, 2) of a FROZEN one", -12, 2, x -> x.as(0, 2));
        due("as(1, 0) of a GOOD one", -12, 2, x -> x.as(1, 0));
        due("as(1, 2) of a GOOD one", -12, 2, x -> x.as(1, 2));
    }

    private static void faultIndex() {
        Due.sentence("Terms: FAULTS 3 INDEX");
        due("read(1, 1) of 3 cells", -13, 3, x -> x.read(1, 1));
        due("nearest(1, 1, 0) of 3 cells", LOST, 3, x -> x.nearest(1, 1, 0));
        due("send(1, 0, 0, 0) to 3 cells", -13, 3, x -> x.send(1, 0, 0, 0));
        for (int i : new int[] {-1, 5, 40, MIN, MAX}) {
            due("put(0, " + i + ", 1)", -13, 3, x -> x.put(0, i, 1));
            due("cell(0, " + i + ", 0)", LOST, 3, x -> x.cell(0, i, 0));
            due("copy(0, " + i + ", 0, 0, 1)", -13, 3, x -> x.copy(0, i, 0, 0, 1));
            due("copy(0, 0, 0, " + i + ", 1)", -13, 3, x -> x.copy(0, 0, 0, i, 1));
        }
        for (int n : new int[] {-1, 6, 41, MIN, MAX}) {
            due("copy(0, 0, 0, 0, " + n + ")", -13, 3, x -> x.copy(0, 0, 0, 0, n));
        }
    }

    private static void faultSize() {
        Due.sentence("Terms: FAULTS 4 SIZE (a length below 0)");
        for (int n : new int[] {-1, -40, -41, MIN}) {
            due("sheet(0, 1, " + n + ")", -14, 4, x -> x.sheet(0, 1, n));
            due("sheet(3, 2, " + n + ")", -14, 4, x -> x.sheet(3, 2, n));
        }
    }

    private static void theFirstRefusalInOrder() {
        Due.sentence("Terms: of several the first in the order in which a call's line tells them");
        due("freeze(4, 2)", -1, KEPT, x -> x.freeze(4, 2));
        due("freeze(-1, -1)", -1, KEPT, x -> x.freeze(-1, -1));
        due("about(4, 3)", -1, KEPT, x -> x.about(4, 3));
        due("about(-1, -1)", -1, KEPT, x -> x.about(-1, -1));
        due("as(4, 3)", -1, 0, x -> x.as(4, 3));
        due("as(-1, -1)", -1, 0, x -> x.as(-1, -1));
        due("read(4, 3)", -1, 0, x -> x.read(4, 3));
        due("read(-1, -1)", -1, 0, x -> x.read(-1, -1));
        due("send(4, -1, -1, -1)", -1, 0, x -> x.send(4, -1, -1, -1));
        due("sheet(4, 3, 41)", -1, 0, x -> x.sheet(4, 3, 41));
        due("sheet(-1, -1, 41)", -1, 0, x -> x.sheet(-1, -1, 41));
        greatDue("count(-1): STATE first", -3, KEPT, x -> x.count(-1));
        greatDue("count(33): STATE first", -3, KEPT, x -> x.count(33));
        greatDue("across(-1): STATE first", -3, KEPT, x -> x.across(-1));
        greatDue("across(33): STATE first", -3, KEPT, x -> x.across(33));
        greatDue("fails(-1): STATE first", -3, KEPT, x -> x.fails(-1));
        greatDue("fails(33): STATE first", -3, KEPT, x -> x.fails(33));
    }

    private static void refusalsAheadOfFaults() {
        Due.sentence("Terms: a refusal told ahead of a fault is come to first");
        due("read(3, 3) of nothing", -2, 0, x -> x.read(3, 3));
        due("nearest(3, 3, 0) of nothing", LOST, 0, x -> x.nearest(3, 3, 0));
        due("nearest(3, 0, 2) of nothing", LOST, 0, x -> x.nearest(3, 0, 2));
        due("nearest(1, 0, 2) of another lane", LOST, 0, x -> x.nearest(1, 0, 2));
        greatDue("nearest(3, 0, 0) of nothing, 13 bits", LOST, 0, x -> x.nearest(3, 0, 0));
        greatDue("nearest(0, 0, 0) of another lane, 13 bits", LOST, 0, x -> x.nearest(0, 0, 0));
        due("send(3, 4, 0, 0) to nothing", -2, 0, x -> x.send(3, 4, 0, 0));
        due("send(3, 0, 16, 0) to nothing", -2, 0, x -> x.send(3, 0, 16, 0));
        due("send(1, 0, 0, 16) to 3 cells", -2, 0, x -> x.send(1, 0, 0, 16));
        due("sheet(4, 0, -1)", -1, 0, x -> x.sheet(4, 0, -1));
        due("sheet(0, 3, -1)", -2, 0, x -> x.sheet(0, 3, -1));
        due("sheet(0, -1, -1)", -2, 0, x -> x.sheet(0, -1, -1));
        due("cell(3, 0, 3) of nothing", LOST, 0, x -> x.cell(3, 0, 3));
        due("cell(0, 9, -1)", LOST, 0, x -> x.cell(0, 9, -1));
        due("copy(3, 0, 4, 0, 0) of nothing", -1, 0, x -> x.copy(3, 0, 4, 0, 0));
        due("copy(0, -1, 4, -1, -1)", -1, 0, x -> x.copy(0, -1, 4, -1, -1));
        due("as(0, 3)", -2, 0, x -> x.as(0, 3));
    }

    private static void theFirstFaultInOrder() {
        Due.sentence("Terms: of FAULTS the first that is come to, in the order told");
        due("read(1, 0): CAST ahead of INDEX", -12, 2, x -> x.read(1, 0));
        due("nearest(1, 0, 0): CAST ahead of INDEX", LOST, 2, x -> x.nearest(1, 0, 0));
        due("put(3, -1, 1): NULL ahead of INDEX", -11, 1, x -> x.put(3, -1, 1));
        due("put(3, 40, 1): NULL ahead of INDEX", -11, 1, x -> x.put(3, 40, 1));
        due("cell(0, 5, 1): CAST ahead of INDEX", LOST, 2, x -> x.cell(0, 5, 1));
        due("cell(0, -1, 2): CAST ahead of INDEX", LOST, 2, x -> x.cell(0, -1, 2));
        due("cell(3, -1, 0): NULL ahead of INDEX", LOST, 1, x -> x.cell(3, -1, 0));
        due("copy(3, -1, 0, 0, 0): NULL ahead of INDEX", -11, 1, x -> x.copy(3, -1, 0, 0, 0));
        due("copy(0, 0, 3, 0, -1): NULL ahead of INDEX", -11, 1, x -> x.copy(0, 0, 3, 0, -1));
        due("copy(1, 0, 3, 0, 0): nothing is of no other LANE", -11, 1, x -> x.copy(1, 0, 3, 0, 0));
        due("copy(3, 0, 2, 0, 0): nothing is of no other LANE", -11, 1, x -> x.copy(3, 0, 2, 0, 0));
        due("copy(0, 9, 1, 0, 1): CAST ahead of INDEX", -12, 2, x -> x.copy(0, 9, 1, 0, 1));
        due("copy(0, 0, 1, 9, 1): CAST ahead of INDEX", -12, 2, x -> x.copy(0, 0, 1, 9, 1));
        due("copy(0, 0, 1, 0, -1): CAST ahead of INDEX", -12, 2, x -> x.copy(0, 0, 1, 0, -1));
        due("send to nothing: NULL, not INDEX", -11, 1, x -> x.send(3, 3, 15, 15));
    }

    private static void askingChangesNothing() {
        Due.sentence("Not promised: no state changes but those told");
        due("share(1)", 25, KEPT, x -> x.share(1));
        due("lower()", 81, KEPT, PlainLines::lower);
        due("about(3, 2)", 1, KEPT, x -> x.about(3, 2));
        due("word(0)", 0b0101, KEPT, x -> x.word(0));
        due("fold(15)", 8, KEPT, x -> x.fold(15));
        due("path(1)", 3, KEPT, x -> x.path(1));
        due("passed()", 1, KEPT, PlainLines::passed);
        due("nearest(2, 2, 1)", 1, 0, x -> x.nearest(2, 2, 1));
        due("count(2)", 4, KEPT, x -> x.count(2));
        due("across(2)", 2, KEPT, x -> x.across(2));
        due("fails(2)", 4, KEPT, x -> x.fails(2));
        due("cell(2, 3, 2)", 1, 0, x -> x.cell(2, 3, 2));
        due("as(1, 1)", 1, 0, x -> x.as(1, 1));
        due("trace()", 1, KEPT, PlainLines::trace);
        due("fault()", KEPT, KEPT, PlainLines::fault);
        due("told(5)", 2, KEPT, x -> x.told(5));
    }
}
