/** Promises 12 to 18. */
public final class ReadingTest {
    private static final long LOST = PlainLines.LOST;

    public static void main(String[] args) {
        wide();
        check();
        read();
        readRefusals();
        path();
        passed();
        nearest();
        nearestRefusals();
        send();
        sendRefusals();
        Due.end();
    }

    /** Four places, with the good ones told by a mask, and sheet 0 with the cells. */
    private static PlainLines four(int good, int... cells) {
        PlainLines x = new PlainLines();
        x.size(4);
        for (int place = 0; place < 4; place++) {
            if ((good >> place & 1) != 0) {
                x.good(place);
            }
        }
        x.wide(64);
        fill(x, cells);
        return x;
    }

    private static void fill(PlainLines x, int... cells) {
        x.sheet(0, 1, cells.length);
        for (int i = 0; i < cells.length; i++) {
            x.put(0, i, cells[i]);
        }
    }

    private static void pathsAre(String what, PlainLines x, long... messages) {
        Due.is(what + ": read", x.read(0, 1), messages.length);
        Due.is(what + ": told(5)", x.told(5), messages.length);
        for (int i = 0; i < messages.length; i++) {
            Due.is(what + ": path(" + i + ")", x.path(i), messages[i]);
        }
        Due.is(what + ": path behind the last", x.path(messages.length), LOST);
    }

    private static void wide() {
        PlainLines x = new PlainLines();
        Due.is("wide(0)", x.wide(0), -2);
        Due.is("wide(-5)", x.wide(-5), -2);
        Due.is("wide(65)", x.wide(65), -2);
        Due.is("wide(64)", x.wide(64), 1);
        Due.is("wide(65) changes nothing", x.wide(65), -2);
        Due.is("told(4)", x.told(4), 64);
        Due.is("wide(1)", x.wide(1), 64);
        PlainLines y = four(0b1010, 2, 2, 2, 2);
        pathsAre("all lost, W 64", y, 0, 2, 1, 3);
        y.wide(3);
        Due.is("wide keeps what was READ", y.told(5), 4);
        pathsAre("all lost, W 3", y, 0, 2, 1);
        y.wide(1);
        pathsAre("all lost, W 1", y, 0);
    }

    private static void check() {
        PlainLines x = four(0b1010, 2, 2, 2, 2);
        Due.is("check(-1)", x.check(-1), -2);
        Due.is("check(2^32)", x.check(1L << 32), -2);
        Due.is("check(MIN)", x.check(Long.MIN_VALUE), -2);
        Due.is("check(2^32 - 1)", x.check((1L << 32) - 1), 1);
        fill(x, 1, 1, 1, 1);
        pathsAre("message 2", x, 2);
        Due.is("bits beyond K are not looked at", x.passed(), -9);
        Due.is("check(0xFFFFFFFD)", x.check(0xFFFFFFFDL), 1);
        Due.is("passed by a mask without bit 1", x.passed(), 0);
        Due.is("a refused check", x.check(-2), -2);
        Due.is("a refused check changes nothing", x.passed(), 0);
        Due.is("check(2)", x.check(2), 1);
        Due.is("not passed", x.passed(), -9);
    }

    private static void read() {
        PlainLines x = four(0b1010, 0, 0, 1, 1);
        // word(3) is 1100 from the highest place down
        pathsAre("nothing lost", x, 3);
        fill(x, 2, 0, 1, 2);
        pathsAre("two lost", x, 3);
        fill(x, 2, 2, 1, 1);
        pathsAre("the first half lost", x, 2, 3);
        fill(x, 0, 1, 1, 1);
        pathsAre("a turned sign ends the path", x);
        fill(x, 0, 0, 1, 1, 7, 7, 7);
        pathsAre("cells beyond N are not looked at", x, 3);
        fill(x, -1, 0, 1, 300);
        pathsAre("any other number is lost", x, 3);
        readWithFrozenOnes();
        readOfTwoPlaces();
        readOfTheLastPlaceAlone();
    }

    private static void readWithFrozenOnes() {
        PlainLines x = four(0b1000, 0, 0, 0, 0);
        x.freeze(2, 1);
        pathsAre("frozen to 1, told 0", x);
        fill(x, 1, 0, 1, 0);
        pathsAre("word(0) with a frozen 1", x, 0);
        fill(x, 0, 1, 0, 1);
        pathsAre("word(1) with a frozen 1", x, 1);
        fill(x, 2, 2, 2, 0);
        pathsAre("the last sign alone", x, 0);
        fill(x, 2, 2, 2, 2);
        pathsAre("no sign", x, 0, 1);
    }

    private static void readOfTwoPlaces() {
        PlainLines x = new PlainLines();
        x.size(2);
        x.wide(2);
        x.good(1);
        x.freeze(0, 0);
        fill(x, 2, 1);
        pathsAre("the first lost", x, 1);
        fill(x, 1, 2);
        pathsAre("the second lost", x, 1);
        x.freeze(0, 1);
        pathsAre("the second lost, a frozen 1", x, 0);
        fill(x, 2, 1);
        pathsAre("the first lost, a frozen 1", x, 1);
        x.good(0);
        fill(x, 0, 1);
        pathsAre("both good", x, 3);
        fill(x, 2, 2);
        pathsAre("both good, both lost, W 2", x, 0, 2);
    }

    private static void readOfTheLastPlaceAlone() {
        PlainLines x = new PlainLines();
        x.size(32);
        x.good(31);
        x.wide(2);
        x.sheet(0, 1, 32);
        for (int i = 0; i < 32; i++) {
            x.put(0, i, i == 17 ? 1 : 9);
        }
        pathsAre("one sign of 32 is left", x, 1);
    }

    private static void readRefusals() {
        PlainLines x = four(0b1000, 0, 0, 0, 0);
        x.read(0, 1);
        Due.is("read(4, 3): UNKNOWN ahead of OUTSIDE", x.read(4, 3), -1);
        Due.is("read(-1, 0)", x.read(-1, 0), -1);
        Due.is("read(1, 3): OUTSIDE ahead of NULL", x.read(1, 3), -2);
        Due.is("fault() of a refused read", x.fault(), 0);
        Due.is("read(0, -1)", x.read(0, -1), -2);
        Due.is("read(1, 0): nothing is no CAST", x.read(1, 0), -11);
        Due.is("fault() NULL", x.fault(), 1);
        Due.is("read(0, 0) of ints", x.read(0, 0), -12);
        Due.is("fault() CAST", x.fault(), 2);
        x.sheet(2, 0, 3);
        Due.is("read(2, 1): CAST ahead of INDEX", x.read(2, 1), -12);
        Due.is("read(2, 0) of 3 cells", x.read(2, 0), -13);
        Due.is("fault() INDEX", x.fault(), 3);
        Due.is("faults keep what was READ", x.told(5), 1);
        Due.is("read(0, 1)", x.read(0, 1), 1);
        Due.is("fault() of none", x.fault(), 0);
    }

    private static void path() {
        PlainLines x = four(0b1010, 2, 2, 2, 2);
        Due.is("path(0) ahead of reading", x.path(0), LOST);
        x.read(0, 1);
        Due.is("path(-1)", x.path(-1), LOST);
        Due.is("path(1)", x.path(1), 2);
        Due.is("path(2)", x.path(2), 1);
        Due.is("path(4)", x.path(4), LOST);
        x.put(0, 0, 1);
        Due.is("what was READ is of the row as it was", x.path(3), 3);
        x.size(32);
        for (int place = 0; place < 32; place++) {
            x.good(place);
        }
        x.sheet(0, 1, 32);
        x.send(0, 0xFFFFFFFFL, 0, 0);
        pathsAre("32 message bits", x, 0xFFFFFFFFL);
    }

    private static void passed() {
        PlainLines x = four(0b1010, 2, 2, 2, 2);
        Due.is("passed() ahead of reading", x.passed(), -3);
        x.check(1);
        Due.is("check() is not reading", x.passed(), -3);
        x.read(0, 1);
        Due.is("paths 0, 2, 1, 3 by mask 1", x.passed(), 0);
        x.wide(64);
        fill(x, 2, 2, 1, 1);
        x.check(0);
        pathsAre("paths 2 and 3", x, 2, 3);
        Due.is("mask 0", x.passed(), 0);
        x.check(2);
        Due.is("mask 2", x.passed(), -9);
        x.check(3);
        Due.is("mask 3", x.passed(), 1);
        fill(x, 0, 1, 1, 1);
        pathsAre("none left", x);
        x.check(0);
        Due.is("mask 0, none left", x.passed(), -9);
        x.good(1);
        Due.is("passed() of what went", x.passed(), -3);
    }

    private static void nearestIs(String what, PlainLines x, long message, long unlike) {
        Due.is(what + ": nearest 0", x.nearest(0, 1, 0), message);
        Due.is(what + ": nearest 1", x.nearest(0, 1, 1), unlike);
        Due.is(what + ": fault", x.fault(), 0);
    }

    private static void nearest() {
        // words: 0000, 1100 (message 1), 1111 (2), 0011 (3), read from place 0 on
        PlainLines x = four(0b1010, 1, 1, 0, 0);
        nearestIs("a word", x, 1, 0);
        fill(x, 1, 1, 1, 0);
        nearestIs("one sign turned, of several the least", x, 1, 1);
        fill(x, 0, 1, 0, 1);
        nearestIs("all are as near", x, 0, 2);
        fill(x, 2, -1, 1, 1);
        nearestIs("lost ones are not looked at", x, 2, 0);
        fill(x, 9, 9, 9, 9);
        nearestIs("all lost", x, 0, 0);
        x.freeze(1, 0);
        x.freeze(3, 1);
        fill(x, 0, 0, 0, 0);
        nearestIs("no message bits", x, 0, 4);
        x.size(32);
        x.line(1, 2);
        x.choose(12);
        x.sheet(0, 1, 32);
        x.send(0, 4095, 0, 0);
        nearestIs("12 message bits", x, 4095, 0);
        x.send(0, 2730, 0, 1L << 31 | 1);
        nearestIs("12 message bits, two turned", x, 2730, 2);
    }

    private static void nearestFault(String call, long got, PlainLines x, int fault) {
        Due.is(call, got, LOST);
        Due.is("fault() behind " + call, x.fault(), fault);
    }

    private static void nearestRefusals() {
        PlainLines x = four(0b1010, 1, 1, 0, 0);
        x.sheet(2, 0, 3);
        nearestFault("nearest(0, 0, 0)", x.nearest(0, 0, 0), x, 2);
        nearestFault("nearest(4, 0, 0)", x.nearest(4, 0, 0), x, 0);
        nearestFault("nearest(1, 0, 0)", x.nearest(1, 0, 0), x, 1);
        nearestFault("nearest(1, 3, 0)", x.nearest(1, 3, 0), x, 0);
        nearestFault("nearest(2, 0, 0)", x.nearest(2, 0, 0), x, 3);
        nearestFault("nearest(1, 0, 2)", x.nearest(1, 0, 2), x, 0);
        nearestFault("nearest(2, 1, 0)", x.nearest(2, 1, 0), x, 2);
        nearestFault("nearest(1, 0, -1)", x.nearest(1, 0, -1), x, 0);
        x.size(16);
        x.choose(13);
        nearestFault("nearest(1, 0, 0) of 13 bits", x.nearest(1, 0, 0), x, 0);
        x.choose(12);
        nearestFault("nearest(0, 1, 0) of 12 bits", x.nearest(0, 1, 0), x, 3);
    }

    private static void cellsAre(String what, PlainLines x, int... cells) {
        for (int i = 0; i < cells.length; i++) {
            Due.is(what + ": cell " + i, x.cell(0, i, 1), cells[i]);
        }
    }

    private static void send() {
        PlainLines x = four(0b1010, 9, 9, 9, 9, 9);
        x.read(0, 1);
        Due.is("send(0, 1, 0, 0)", x.send(0, 1, 0, 0), 0);
        cellsAre("word(1)", x, 1, 1, 0, 0, 9);
        Due.is("send keeps what was READ", x.told(5), 4);
        Due.is("send(0, 1, 6, 0)", x.send(0, 1, 6, 0), 2);
        cellsAre("two lost", x, 1, 2, 2, 0, 9);
        Due.is("send(0, 1, 0, 15)", x.send(0, 1, 0, 15), 4);
        cellsAre("all turned", x, 0, 0, 1, 1, 9);
        Due.is("send(0, 1, 3, 9)", x.send(0, 1, 3, 9), 3);
        cellsAre("lose first", x, 2, 2, 0, 1, 9);
        for (int lane = 0; lane < 3; lane++) {
            x.sheet(1, lane, 4);
            Due.is("send to lane " + lane, x.send(1, 2, 8, 0), 1);
            Due.is("cell 0 of lane " + lane, x.cell(1, 0, lane), 1);
            Due.is("cell 3 of lane " + lane, x.cell(1, 3, lane), 2);
        }
        x.size(32);
        x.sheet(0, 1, 32);
        Due.is("send of 32 signs", x.send(0, 0, 0xFFFFFFFFL, 0xFFFFFFFFL), 32);
    }

    private static void sendRefusals() {
        PlainLines x = four(0b1010, 9, 9, 9, 9);
        x.sheet(2, 0, 3);
        Due.is("send(1, 0, 0, 0)", x.send(1, 0, 0, 0), -11);
        Due.is("fault() NULL", x.fault(), 1);
        Due.is("send(4, 4, 0, 0): UNKNOWN ahead of OUTSIDE", x.send(4, 4, 0, 0), -1);
        Due.is("fault() of a refused send", x.fault(), 0);
        Due.is("send(2, 0, 0, 0)", x.send(2, 0, 0, 0), -13);
        Due.is("fault() INDEX", x.fault(), 3);
        Due.is("send(1, 4, 0, 0): OUTSIDE ahead of NULL", x.send(1, 4, 0, 0), -2);
        Due.is("fault() of an outside send", x.fault(), 0);
        Due.is("send(0, -1, 0, 0)", x.send(0, -1, 0, 0), -2);
        Due.is("send(0, 0, 16, 0)", x.send(0, 0, 16, 0), -2);
        Due.is("send(0, 0, -1, 0)", x.send(0, 0, -1, 0), -2);
        Due.is("send(0, 0, 0, 16)", x.send(0, 0, 0, 16), -2);
        Due.is("send(0, 0, 0, -1)", x.send(0, 0, 0, -1), -2);
        cellsAre("nothing came", x, 9, 9, 9, 9);
        Due.is("cell of the short sheet", x.cell(2, 0, 0), 0);
    }
}
