/** Promises 22 to 32. */
public final class SheetsTest {
    private static final long LOST = PlainLines.LOST;

    public static void main(String[] args) {
        sheet();
        lose();
        put();
        cell();
        copy();
        copyFaults();
        tell();
        weigh();
        as();
        trace();
        fault();
        told();
        Due.end();
    }

    private static void answerAndFault(String call, long got, long want, PlainLines x, int fault) {
        Due.is(call, got, want);
        Due.is("fault() behind " + call, x.fault(), fault);
    }

    private static void sheet() {
        PlainLines x = new PlainLines();
        answerAndFault("sheet(0, 0, -1)", x.sheet(0, 0, -1), -14, x, 4);
        answerAndFault("sheet(4, 3, -1): UNKNOWN first", x.sheet(4, 3, -1), -1, x, 0);
        answerAndFault("sheet(0, 0, MIN)", x.sheet(0, 0, Integer.MIN_VALUE), -14, x, 4);
        answerAndFault("sheet(-1, 0, 1)", x.sheet(-1, 0, 1), -1, x, 0);
        x.sheet(0, 0, -1);
        answerAndFault("sheet(0, 3, -1): OUTSIDE ahead of SIZE", x.sheet(0, 3, -1), -2, x, 0);
        answerAndFault("sheet(0, -1, 1)", x.sheet(0, -1, 1), -2, x, 0);
        x.sheet(0, 0, -1);
        answerAndFault("sheet(0, 0, 41)", x.sheet(0, 0, 41), -2, x, 0);
        Due.is("none of them made a row", x.lose(0), 0);
        x.sheet(0, 0, -1);
        answerAndFault("sheet(0, 0, 40)", x.sheet(0, 0, 40), 1, x, 0);
        Due.is("the last of 40", x.put(0, 39, 5), 1);
        Due.is("beyond 40", x.put(0, 40, 5), -13);
        Due.is("sheet(0, 2, -1)", x.sheet(0, 2, -1), -14);
        Due.is("the row stays behind a fault", x.cell(0, 39, 0), 5);
        Due.is("sheet(0, 1, 40)", x.sheet(0, 1, 40), 1);
        Due.is("a new row has 0", x.cell(0, 39, 1), 0);
        Due.is("sheet(0, 1, 0)", x.sheet(0, 1, 0), 1);
        Due.is("a row of no cells", x.put(0, 0, 1), -13);
        Due.is("a row of no cells is there", x.lose(0), 1);
    }

    private static void lose() {
        PlainLines x = new PlainLines();
        Due.is("lose(-1)", x.lose(-1), -1);
        Due.is("lose(4)", x.lose(4), -1);
        Due.is("lose(3)", x.lose(3), 0);
        x.sheet(3, 2, 4);
        x.put(3, 9, 1);
        Due.is("lose(3) of a row", x.lose(3), 1);
        Due.is("lose names no fault", x.fault(), 3);
        Due.is("lose(3) again", x.lose(3), 0);
        Due.is("put to nothing", x.put(3, 0, 1), -11);
    }

    private static void put() {
        PlainLines x = new PlainLines();
        answerAndFault("put(0, 0, 1)", x.put(0, 0, 1), -11, x, 1);
        answerAndFault("put(4, 0, 1)", x.put(4, 0, 1), -1, x, 0);
        answerAndFault("put(0, -1, 1): NULL ahead of INDEX", x.put(0, -1, 1), -11, x, 1);
        answerAndFault("put(-1, 0, 1)", x.put(-1, 0, 1), -1, x, 0);
        x.sheet(0, 0, 3);
        answerAndFault("put(0, 3, 1)", x.put(0, 3, 1), -13, x, 3);
        answerAndFault("put(0, 2, 1)", x.put(0, 2, 1), 1, x, 0);
        answerAndFault("put(0, -1, 1)", x.put(0, -1, 1), -13, x, 3);
        answerAndFault("put(0, MIN, 1)", x.put(0, Integer.MIN_VALUE, 1), -13, x, 3);
        x.put(0, 0, 255);
        x.put(0, 1, 128 + 512);
        Due.is("255 as a byte", x.cell(0, 0, 0), -1);
        Due.is("640 as a byte", x.cell(0, 1, 0), -128);
        x.sheet(0, 1, 2);
        x.put(0, 0, 0x1_8000_0000L);
        x.put(0, 1, 255);
        Due.is("cut to an int", x.cell(0, 0, 1), Integer.MIN_VALUE);
        Due.is("255 as an int", x.cell(0, 1, 1), 255);
        x.sheet(0, 2, 1);
        x.put(0, 0, Long.MAX_VALUE);
        Due.is("a long", x.cell(0, 0, 2), Long.MAX_VALUE);
    }

    private static void cell() {
        PlainLines x = new PlainLines();
        answerAndFault("cell(0, 0, 0)", x.cell(0, 0, 0), LOST, x, 1);
        answerAndFault("cell(4, 0, 0)", x.cell(4, 0, 0), LOST, x, 0);
        x.cell(0, 0, 0);
        answerAndFault("cell(0, 0, 3): OUTSIDE ahead of NULL", x.cell(0, 0, 3), LOST, x, 0);
        x.cell(0, 0, 0);
        answerAndFault("cell(-1, 0, 0)", x.cell(-1, 0, 0), LOST, x, 0);
        answerAndFault("cell(0, 0, 2): nothing is no CAST", x.cell(0, 0, 2), LOST, x, 1);
        answerAndFault("cell(0, 0, -1)", x.cell(0, 0, -1), LOST, x, 0);
        x.sheet(0, 1, 2);
        x.put(0, 1, 77);
        answerAndFault("cell(0, 5, 0): CAST ahead of INDEX", x.cell(0, 5, 0), LOST, x, 2);
        answerAndFault("cell(0, 2, 1)", x.cell(0, 2, 1), LOST, x, 3);
        answerAndFault("cell(0, -1, 1)", x.cell(0, -1, 1), LOST, x, 3);
        answerAndFault("cell(0, MAX, 1)", x.cell(0, Integer.MAX_VALUE, 1), LOST, x, 3);
        answerAndFault("cell(0, 1, 1)", x.cell(0, 1, 1), 77, x, 0);
        x.cell(0, 1, 2);
        x.sheet(0, 2, 1);
        x.put(0, 0, Long.MIN_VALUE);
        answerAndFault("cell that has LOST's number", x.cell(0, 0, 2), LOST, x, 0);
    }

    private static void rowIs(String what, PlainLines x, int k, int... cells) {
        for (int i = 0; i < cells.length; i++) {
            Due.is(what + ": cell " + i, x.cell(k, i, 0), cells[i]);
        }
    }

    private static void copy() {
        PlainLines x = new PlainLines();
        x.sheet(0, 0, 5);
        x.sheet(1, 0, 3);
        for (int i = 0; i < 5; i++) {
            x.put(0, i, i + 1);
        }
        answerAndFault("copy(0, 1, 1, 0, 3)", x.copy(0, 1, 1, 0, 3), 3, x, 0);
        rowIs("to another", x, 1, 2, 3, 4);
        Due.is("copy(0, 0, 0, 1, 4)", x.copy(0, 0, 0, 1, 4), 4);
        rowIs("upwards in the same, as they were", x, 0, 1, 1, 2, 3, 4);
        Due.is("copy(0, 2, 0, 0, 3)", x.copy(0, 2, 0, 0, 3), 3);
        rowIs("downwards in the same", x, 0, 2, 3, 4, 3, 4);
        Due.is("copy(0, 5, 1, 3, 0)", x.copy(0, 5, 1, 3, 0), 0);
        rowIs("none", x, 1, 2, 3, 4);
    }

    private static void copyFaults() {
        PlainLines x = new PlainLines();
        int max = Integer.MAX_VALUE;
        x.sheet(0, 0, 5);
        x.sheet(1, 1, 3);
        x.sheet(2, 0, 3);
        x.put(0, 0, 7);
        answerAndFault("copy(3, 0, 0, 0, 0)", x.copy(3, 0, 0, 0, 0), -11, x, 1);
        answerAndFault("copy(3, 0, 4, 0, 0): UNKNOWN first", x.copy(3, 0, 4, 0, 0), -1, x, 0);
        answerAndFault("copy(0, 0, 3, 0, 0)", x.copy(0, 0, 3, 0, 0), -11, x, 1);
        answerAndFault("copy(-1, 0, 3, 0, 0)", x.copy(-1, 0, 3, 0, 0), -1, x, 0);
        answerAndFault("copy(0, 0, -1, 0, 0)", x.copy(0, 0, -1, 0, 0), -1, x, 0);
        answerAndFault("copy(4, 0, 0, 0, 0)", x.copy(4, 0, 0, 0, 0), -1, x, 0);
        answerAndFault("copy(0, 9, 1, 0, 1): CAST ahead of INDEX", x.copy(0, 9, 1, 0, 1), -12, x, 2);
        answerAndFault("copy(0, 9, 3, 0, 1): NULL ahead of INDEX", x.copy(0, 9, 3, 0, 1), -11, x, 1);
        answerAndFault("copy(0, -1, 2, 0, 1)", x.copy(0, -1, 2, 0, 1), -13, x, 3);
        answerAndFault("copy(0, 0, 2, -1, 1)", x.copy(0, 0, 2, -1, 1), -13, x, 3);
        answerAndFault("copy(0, 0, 2, 0, -1)", x.copy(0, 0, 2, 0, -1), -13, x, 3);
        answerAndFault("copy(0, 4, 2, 0, 2)", x.copy(0, 4, 2, 0, 2), -13, x, 3);
        answerAndFault("copy(0, 0, 2, 1, 3)", x.copy(0, 0, 2, 1, 3), -13, x, 3);
        answerAndFault("copy(0, 6, 2, 0, 0)", x.copy(0, 6, 2, 0, 0), -13, x, 3);
        answerAndFault("copy(0, 0, 2, 4, 0)", x.copy(0, 0, 2, 4, 0), -13, x, 3);
        answerAndFault("copy(0, 1, 2, 0, max)", x.copy(0, 1, 2, 0, max), -13, x, 3);
        answerAndFault("copy(0, max, 2, max, max)", x.copy(0, max, 2, max, max), -13, x, 3);
        rowIs("nothing came", x, 2, 0, 0, 0);
    }

    private static void tell() {
        PlainLines x = new PlainLines();
        x.freeze(2, 1);
        x.good(5);
        Due.is("tell(8)", x.tell(8), -1);
        Due.is("tell(-1)", x.tell(-1), -1);
        Due.is("refused: no trace", x.trace(), 0);
        Due.is("tell(2)", x.tell(2), 1);
        Due.is("trace 1", x.trace(), 1);
        Due.is("tell(0)", x.tell(0), 0);
        Due.is("trace 1 1", x.trace(), 32);
        Due.is("tell(5)", x.tell(5), 15);
        Due.is("trace 1 1 2", x.trace(), 32 * 31 + 2);
        PlainLines best = new PlainLines();
        best.good(5);
        best.line(0, 3);
        Due.is("tell of a best one", best.tell(5), 30);
        Due.is("trace 3 2", best.trace(), 3 * 31 + 2);
        best.size(32);
        best.good(5);
        Due.is("none is best where no shares are told", best.tell(5), 15);
        best.line(0, 2);
        Due.is("best, of 2 to the 32", best.tell(5), 30);
    }

    private static void weigh() {
        PlainLines x = new PlainLines();
        x.good(5);
        Due.is("weigh(8)", x.weigh(8), -1);
        Due.is("weigh(-1)", x.weigh(-1), -1);
        Due.is("refused: no trace", x.trace(), 0);
        Due.is("weigh(3)", x.weigh(3), 3);
        Due.is("trace 4", x.trace(), 4);
        Due.is("weigh(5)", x.weigh(5), 3);
        Due.is("trace 4 5", x.trace(), 4 * 31 + 5);
        PlainLines best = new PlainLines();
        best.size(16);
        best.good(1);
        best.line(0, 1);
        Due.is("weigh of a best one", best.weigh(1), 15);
        Due.is("trace 5", best.trace(), 5);
    }

    private static void asIs(PlainLines x, int place, int frozen, int good, int best) {
        answerAndFault("as(" + place + ", 0)", x.as(place, 0), frozen, x, frozen == 1 ? 0 : 2);
        answerAndFault("as(" + place + ", 1)", x.as(place, 1), good, x, good == 1 ? 0 : 2);
        answerAndFault("as(" + place + ", 2)", x.as(place, 2), best, x, best == 1 ? 0 : 2);
    }

    private static void as() {
        PlainLines x = new PlainLines();
        x.good(5);
        asIs(x, 3, 1, -12, -12);
        asIs(x, 5, -12, 1, -12);
        x.line(0, 4);
        asIs(x, 3, 1, -12, -12);
        asIs(x, 5, -12, 1, 1);
        x.as(3, 1);
        answerAndFault("as(8, 3): UNKNOWN ahead of OUTSIDE", x.as(8, 3), -1, x, 0);
        x.as(3, 1);
        answerAndFault("as(-1, 0)", x.as(-1, 0), -1, x, 0);
        x.as(3, 1);
        answerAndFault("as(3, 3)", x.as(3, 3), -2, x, 0);
        x.as(3, 1);
        answerAndFault("as(3, -1)", x.as(3, -1), -2, x, 0);
        Due.is("as leaves no trace", x.trace(), 0);
        x.size(32);
        x.good(5);
        asIs(x, 5, -12, 1, -12);
    }

    private static void trace() {
        PlainLines x = new PlainLines();
        int due = 0;
        for (int i = 0; i < 20; i++) {
            x.weigh(i % 8);
            due = 31 * due + 4;
            Due.is("trace() behind " + (i + 1) + " bodies", x.trace(), due);
        }
        x.size(4);
        x.good(9);
        Due.is("trace() stays", x.trace(), due);
    }

    private static void fault() {
        PlainLines x = new PlainLines();
        Due.is("fault() at first", x.fault(), 0);
        x.put(0, 0, 0);
        x.tell(9);
        x.word(-1);
        x.lose(9);
        x.size(3);
        x.told(9);
        Due.is("calls that name no fault keep it", x.fault(), 1);
        Due.is("fault() keeps it", x.fault(), 1);
        x.sheet(0, 0, 1);
        Due.is("none", x.fault(), 0);
        x.as(0, 1);
        Due.is("CAST", x.fault(), 2);
        x.copy(9, 0, 0, 0, 0);
        Due.is("refused", x.fault(), 0);
        x.sheet(0, 0, -9);
        Due.is("SIZE", x.fault(), 4);
        x.put(0, 0, 1);
        Due.is("none", x.fault(), 0);
    }

    private static void told() {
        PlainLines x = new PlainLines();
        x.size(4);
        x.good(1);
        x.good(2);
        x.line(3, 7);
        x.wide(5);
        Due.is("told(0)", x.told(0), 4);
        Due.is("told(1)", x.told(1), 2);
        Due.is("told(2)", x.told(2), 3);
        Due.is("told(3)", x.told(3), 7);
        Due.is("told(4)", x.told(4), 5);
        Due.is("told(5)", x.told(5), -9);
        Due.is("told(6)", x.told(6), -2);
        Due.is("told(-1)", x.told(-1), -2);
        x.sheet(0, 0, 4);
        x.send(0, 0, 15, 0);
        x.read(0, 0);
        Due.is("told(5) of READ", x.told(5), 4);
    }
}
