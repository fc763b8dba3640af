import java.math.BigInteger;
import java.util.Arrays;

/**
 * 'What it is', the document's first sentence, part by part: the promises are held against one another,
 * not against numbers that were worked out by hand or by the reference.
 */
public final class WholeTest {
    private static final int[][] LINES = {{1, 2}, {0, 3}, {1, 3}, {2, 3}, {3, 3}, {1, 1}, {3, 5}, {3, 8}, {7, 8}};
    private static final int[] COUNTED_SIZES = {2, 4, 8, 16};
    private static final long ONES_AND_FROZEN = 0b0110_0101_1001_0010L;

    public static void main(String[] args) {
        shareIsHowOftenAPlaceIsLost();
        foldingLosesNothingOverall();
        chosenPlacesAreTheGoodOnes();
        allMessagesThatFitAreRead();
        everyRowOfFewPlaces();
        nothingLostIsReadAsFolded();
        aCheckTakesTheFirstThatMeetsIt();
        turnedSignsAreSeenThrough();
        wordsAndThoseAcross();
        readingFailsAsOftenAsTold();
        asTheReadmeSays();
        Due.end();
    }

    private static void shareIsHowOftenAPlaceIsLost() {
        Due.sentence("What it is: how often each is lost when lines lose signs, as exact fractions");
        for (int n : COUNTED_SIZES) {
            for (int place = 0; place < n; place++) {
                PlainLines x = Made.withGood(n, 1L << place);
                for (int[] line : LINES) {
                    x.line(line[0], line[1]);
                    Due.is(n + " places, " + line[0] + " / " + line[1] + ": share(" + place + ")",
                        x.share(place), lostOfAll(x, line[0], line[1]).longValueExact());
                }
            }
        }
    }

    /** Of q to the N ways for the lines to do, those in which the one good place is lost. */
    private static BigInteger lostOfAll(PlainLines x, int p, int q) {
        int n = x.told(0);
        BigInteger sum = BigInteger.ZERO;
        for (int t = 0; t <= n; t++) {
            BigInteger ways = BigInteger.valueOf(p).pow(t).multiply(BigInteger.valueOf(q - p).pow(n - t));
            sum = sum.add(BigInteger.valueOf(x.fails(t)).multiply(ways));
        }
        return sum;
    }

    private static void foldingLosesNothingOverall() {
        Due.sentence("What it is: rows of poor lines turned to good and bad ones by folding");
        for (int n : Made.SIZES) {
            PlainLines x = Made.ofSize(n);
            for (int[] line : LINES) {
                x.line(line[0], line[1]);
                if (x.lower() != PlainLines.LOST) {
                    long sum = 0;
                    for (int place = 0; place < n; place++) {
                        sum += x.share(place);
                    }
                    Due.is(n + " places, " + line[0] + " / " + line[1] + ": all shares", sum,
                        x.lower() / line[1] * line[0] * n);
                }
            }
        }
    }

    private static void chosenPlacesAreTheGoodOnes() {
        Due.sentence("What it is: good places chosen");
        for (int n : Made.SIZES) {
            for (int k = 0; k <= n; k++) {
                PlainLines x = Made.ofSize(n);
                long sum = x.choose(k);
                long goodSum = 0;
                long greatestGood = 0;
                long leastFrozen = Long.MAX_VALUE;
                for (int place = 0; place < n; place++) {
                    if (x.about(place, 0) == 1) {
                        goodSum += x.share(place);
                        greatestGood = Math.max(greatestGood, x.share(place));
                    } else {
                        leastFrozen = Math.min(leastFrozen, x.share(place));
                    }
                }
                Due.is("choose(" + k + ") of " + n + ": K", x.told(1), k);
                Due.is("choose(" + k + ") of " + n, sum, goodSum);
                Due.isTrue("choose(" + k + ") of " + n + ": no FROZEN one is better", greatestGood <= leastFrozen);
            }
        }
    }

    /** The best k places are good, the others frozen to the bits; sheet 0 takes a word. */
    private static PlainLines coded(int n, int k, long frozenBits) {
        PlainLines x = Made.ofSize(n);
        x.choose(k);
        for (int place = 0; place < n; place++) {
            if (x.about(place, 0) == 0) {
                x.freeze(place, (int) (frozenBits >> place & 1));
            }
        }
        x.sheet(0, 0, n);
        x.wide(64);
        return x;
    }

    /** With W beyond all messages no path is cut, so those left are all that fit, by their bits from the first on. */
    private static long[] messagesThatFit(PlainLines x, long row, long lost) {
        int k = x.told(1);
        long[] fit = new long[1 << k];
        int found = 0;
        for (int order = 0; order < 1 << k; order++) {
            long message = k == 0 ? 0 : Integer.toUnsignedLong(Integer.reverse(order)) >>> (32 - k);
            if (((x.word(message) ^ row) & ~lost) == 0) {
                fit[found] = message;
                found++;
            }
        }
        return Arrays.copyOf(fit, found);
    }

    private static long[] pathsLeft(PlainLines x) {
        long[] paths = new long[x.told(5)];
        for (int i = 0; i < paths.length; i++) {
            paths[i] = x.path(i);
        }
        return paths;
    }

    private static void allMessagesThatFitAreRead() {
        Due.sentence("What it is: messages folded into words, sent over lines that lose or turn signs, read back");
        for (int k = 0; k <= 5; k++) {
            for (long lose = 0; lose < 256; lose++) {
                PlainLines x = coded(8, k, ONES_AND_FROZEN);
                long message = (lose * 11 + 5) % (1L << k);
                long turn = lose % 3 == 0 ? 1L << (lose % 8) : 0;
                x.send(0, message, lose, turn);
                long[] fit = messagesThatFit(x, x.word(message) ^ turn, lose);
                String what = "K " + k + ", message " + message + ", lose " + lose + ", turn " + turn;
                Due.is(what + ": read", x.read(0, 0), fit.length);
                Due.isSame(what + ": paths", Arrays.toString(pathsLeft(x)), Arrays.toString(fit));
            }
        }
    }

    /** Digits to the base 3: of the places 0 and 1 frozen, 2 good; of the row the signs, 2 lost. */
    private static void everyRowOfFewPlaces() {
        Due.sentence("Terms 2: READING a ROW with PATHS: every row of 2 and 4 PLACES, GOOD or FROZEN in every way");
        for (int n = 2; n <= 4; n += 2) {
            int ways = n == 2 ? 9 : 81;
            for (int places = 0; places < ways; places++) {
                for (int row = 0; row < ways; row++) {
                    readIsAllThatFits(n, places, row);
                }
            }
        }
    }

    private static int digit(int number, int i) {
        int rest = number;
        for (int ahead = 0; ahead < i; ahead++) {
            rest /= 3;
        }
        return rest % 3;
    }

    private static void readIsAllThatFits(int n, int places, int row) {
        PlainLines x = Made.ofSize(n);
        x.wide(64);
        x.sheet(0, 1, n);
        long ones = 0;
        long lost = 0;
        for (int i = 0; i < n; i++) {
            if (digit(places, i) == 2) {
                x.good(i);
            } else {
                x.freeze(i, digit(places, i));
            }
            x.put(0, i, digit(row, i));
            ones |= (digit(row, i) == 1 ? 1L : 0) << i;
            lost |= (digit(row, i) == 2 ? 1L : 0) << i;
        }
        x.read(0, 1);
        Due.isSame(n + " places " + Integer.toString(places, 3) + ", row " + Integer.toString(row, 3),
            Arrays.toString(pathsLeft(x)), Arrays.toString(messagesThatFit(x, ones, lost)));
    }

    private static void nothingLostIsReadAsFolded() {
        Due.sentence("Terms 2: A GOOD PLACE: THE BIT told comes to what it knows");
        for (int n : Made.SIZES) {
            long all = (1L << n) - 1;
            for (int i = 0; i < 64; i++) {
                PlainLines x = Made.withGood(n, all);
                long row = 0x9E3779B97F4A7C15L * (i + 1) >>> 20 & all;
                x.sheet(0, 2, n);
                for (int place = 0; place < n; place++) {
                    x.put(0, place, row >> place & 1);
                }
                Due.is(n + " places, row " + row + ": read", x.read(0, 2), 1);
                Due.is(n + " places, row " + row + ": path(0)", x.path(0), x.fold(row));
                Due.is(n + " places, row " + row + ": word(path(0))", x.word(x.path(0)), row);
            }
        }
    }

    private static void aCheckTakesTheFirstThatMeetsIt() {
        Due.sentence("What it is: read back place by place with lists of paths and a check");
        for (long mask = 0; mask < 64; mask++) {
            PlainLines x = coded(8, 5, ONES_AND_FROZEN);
            x.send(0, mask % 32, 0b1110_1110, 0);
            x.read(0, 0);
            x.check(mask);
            long[] paths = pathsLeft(x);
            int first = PlainLines.NONE;
            for (int i = paths.length - 1; i >= 0; i--) {
                first = Long.bitCount(paths[i] & mask) % 2 == 0 ? i : first;
            }
            Due.isTrue("there is more than one path", paths.length > 1);
            Due.is("mask " + mask + ": passed()", x.passed(), first);
        }
    }

    /** The words of K 4 of 8 are unlike at 4 places at least: so many lost signs and twice turned ones do harm. */
    private static void turnedSignsAreSeenThrough() {
        Due.sentence("What it is: sent over lines that lose or turn signs");
        for (long message = 0; message < 16; message++) {
            for (long lose = 0; lose < 256; lose++) {
                PlainLines x = coded(8, 4, ONES_AND_FROZEN);
                for (int place = 0; place < 8 && Long.bitCount(lose) <= 3; place++) {
                    long turn = Long.bitCount(lose) <= 1 ? 1L << place & ~lose : 0;
                    String what = "message " + message + ", lose " + lose + ", turn " + turn;
                    Due.is(what + ": send", x.send(0, message, lose, turn), Long.bitCount(lose | turn));
                    Due.is(what + ": nearest 0", x.nearest(0, 0, 0), message);
                    Due.is(what + ": nearest 1", x.nearest(0, 0, 1), Long.bitCount(turn));
                }
            }
        }
    }

    /** Those across to words are words themselves: their good places are the frozen ones, from the other end. */
    private static void wordsAndThoseAcross() {
        Due.sentence("What it is: how many words have how many ones, of the words and of those across to them");
        for (int n : COUNTED_SIZES) {
            for (int k = 0; k <= n; k++) {
                PlainLines x = Made.ofSize(n);
                x.choose(k);
                long good = 0;
                for (int place = 0; place < n; place++) {
                    good |= (long) (1 - x.about(place, 0)) << (n - 1 - place);
                }
                PlainLines y = Made.withGood(n, good);
                acrossIsCounted(x, y);
                acrossIsCounted(y, x);
            }
        }
    }

    private static void acrossIsCounted(PlainLines x, PlainLines y) {
        int n = x.told(0);
        long across = 0;
        for (int w = 0; w <= n; w++) {
            across += x.across(w);
            if (y.told(1) <= 12) {
                Due.is(n + " places, K " + x.told(1) + ": across(" + w + ")", x.across(w), y.count(w));
            }
        }
        Due.is(n + " places, K " + x.told(1) + ": all across", across, 1L << (n - x.told(1)));
    }

    /** Where a bit is lost one path takes 0 for it, so a message of ones alone is read wrong just then. */
    private static void readingFailsAsOftenAsTold() {
        Due.sentence("What it is: how often reading fails, by how many signs are lost");
        for (int n = 2; n <= 8; n *= 2) {
            for (int k = 1; k <= n; k++) {
                int[] failed = new int[n + 1];
                for (long lose = 0; lose < 1L << n; lose++) {
                    PlainLines x = coded(n, k, ONES_AND_FROZEN);
                    x.wide(1);
                    long message = (1L << k) - 1;
                    x.send(0, message, lose, 0);
                    x.read(0, 0);
                    failed[Long.bitCount(lose)] += x.path(0) == message ? 0 : 1;
                }
                PlainLines x = coded(n, k, ONES_AND_FROZEN);
                for (int t = 0; t <= n; t++) {
                    Due.is(n + " places, K " + k + ": fails(" + t + ")", x.fails(t), failed[t]);
                }
            }
        }
    }

    /** The calls under 'How to use it' in README.md. */
    private static void asTheReadmeSays() {
        Due.sentence("README.md, how to use it");
        PlainLines lines = new PlainLines();
        Due.is("choose(4)", lines.choose(4), 162);
        Due.is("lower()", lines.lower(), 256);
        Due.is("sheet(0, 0, 8)", lines.sheet(0, 0, 8), 1);
        Due.is("send(0, 11, 0b110, 0)", lines.send(0, 11, 0b110, 0), 2);
        Due.is("wide(4)", lines.wide(4), 1);
        Due.is("read(0, 0)", lines.read(0, 0), 1);
        Due.is("path(0)", lines.path(0), 11);
        Due.is("count(4)", lines.count(4), 14);
        Due.is("fails(4)", lines.fails(4), 22);
        Due.is("put(1, 0, 5)", lines.put(1, 0, 5), -11);
        Due.is("fault()", lines.fault(), 1);
    }
}
