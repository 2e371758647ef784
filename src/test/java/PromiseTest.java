/** For each promise: ordinary inputs, the edges that the document names, and wrong inputs. */
public final class PromiseTest {
    private static final int LEAST = Integer.MIN_VALUE, MOST = Integer.MAX_VALUE;
    private static final int NULL = -11, CAST = -12, INDEX = -13, SIZE = -14, STORE = -15;
    private static final int HALF = 1056964608, ONE = 1065353216;
    private static final String SPOILT = "h;d9R;b8L;p7R;d6R;b5L;d4r;p3L,0123,45,23,01,0156,6";
    /** Weights 3, 3, 8 and 5; the last cell is fixed on the right. */
    private static final String FOUR = "h;p3l;b2l;d4r;p5R,01,012,23,03";

    private static int checks = 0;
    private static int wrong = 0;

    private static void due(int promise, String call, long got, long want) {
        checks++;
        if (got != want) {
            wrong++;
            System.out.println("promise " + promise + ": " + call + " answered " + got + ", due is " + want);
        }
    }

    private static void lay(HalfCuts x, int k, int lane, int... numbers) {
        due(24, "sheet for a row", x.sheet(k, lane, numbers.length), 1);
        for (int i = 0; i < numbers.length; i++) {
            due(26, "put in a row", x.put(k, i, numbers[i]), 1);
        }
    }

    private static void layText(HalfCuts x, String text) {
        lay(x, 3, 2, text.chars().toArray());
    }

    private static int read(HalfCuts x, String text) {
        layText(x, text);
        return x.circuit(3, 2, 0, text.length());
    }

    private static HalfCuts made(String text) {
        HalfCuts x = new HalfCuts();
        due(2, text, x.circuit(0, 0, 0, 0), NULL);
        // A text that is not taken, unlike the one that is, is read ahead of it and behind it.
        due(2, SPOILT, read(x, SPOILT), -100 - SPOILT.length());
        due(2, text, read(x, text), text.chars().filter(code -> code == ';').count());
        due(2, SPOILT, read(x, SPOILT), -100 - SPOILT.length());
        return x;
    }

    private static int bits(int upper, int lower) {
        return Float.floatToIntBits((float) upper / (float) lower);
    }

    public static void main(String[] args) {
        newObject();
        texts();
        circuitRefusals();
        circuitMakesAnew();
        cellsNetsSides();
        bulkAndBound();
        movesAndPasses();
        settling();
        days();
        dayRefusals();
        leastCut();
        apartAndClosest();
        racks();
        readings();
        odds();
        sheets();
        copies();
        telling();
        faults();
        counts();
        System.out.println("PromiseTest: " + checks + " checks, " + wrong + " wrong");
        if (wrong != 0) {
            System.exit(1);
        }
    }

    private static void newObject() {
        HalfCuts x = new HalfCuts();
        for (int what = 0; what <= 4; what++) {
            due(1, "many " + what, x.many(what), 0);
        }
        for (int k = 0; k < 4; k++) {
            due(1, "lose " + k, x.lose(k), 0);
        }
        due(1, "trace", x.trace(), 0);
        due(1, "fault", x.fault(), 0);
        due(3, "ofCell", x.ofCell(0, 0), -1);
        due(4, "ofNet", x.ofNet(0, 0), -1);
        due(5, "ofSide", x.ofSide(9, 9), -3);
        due(6, "bulk", x.bulk(0, 0), -1);
        due(7, "bound", x.bound(0), -3);
        due(8, "move", x.move(0), -1);
        due(9, "pass", x.pass(9), -3);
        due(10, "tries", x.tries(9, 9), -3);
        due(11, "settle", x.settle(9), -3);
        due(13, "least", x.least(9), -3);
        due(14, "apart", x.apart(0, 1), -1);
        due(15, "closest", x.closest(9), -3);
        due(16, "rack", x.rack(9, -1), -3);
        due(17, "stow", x.stow(0, 0), -1);
        due(18, "stowed", x.stowed(0), NULL);
        due(19, "reading", x.reading(0, -1), -1);
        due(20, "back 0", x.back(0), 0);
        due(20, "back 1", x.back(1), -2);
        due(21, "kinds", x.kinds(0), -1);
        due(22, "bulks", x.bulks(0), -1);
        due(23, "odds", x.odds(0, 0), HalfCuts.LOST);
        due(29, "tell", x.tell(0), -1);
        due(30, "probe", x.probe(0), -1);
        due(31, "as", x.as(0, 9), -1);
    }

    private static void texts() {
        Object[][] told = {
            {"", -100}, {"x", -100}, {"h", -101}, {"hh", -101}, {"h,", -101},
            {"h;", -102}, {"h;x", -102}, {"h;p", -103}, {"h;p0", -103}, {"h;pp", -103},
            {"h;p9", -104}, {"h;p9s", -104}, {"h;p9l", 1}, {"h;b1r", 1}, {"h;d5L", 1}, {"h;p2R", 1},
            {"h;p9lx", -105}, {"h;p9l;", -106}, {"h;p9l;p", -107}, {"h;p9l;;", -106},
            {"h;p9l,", -106}, {"h;p9l,0", -107}, {"h;p9l,00", -107}, {"h;p9l,1", -106}, {"h;p9l,0,", -107},
            {"h;p1l;p1l,01", 2}, {"h;p1l;p1l,10", 2}, {"h;p1l;p1l,02", -111}, {"h;p1l;p1l,0", -111},
            {"h;p1l;p1l,0;", -111}, {"h;p1l;p1l,01;p1l", -112}, {"h;p1l;p1l,,", -110}, {"h;p1l;p1l,01,", -113},
            {"h;p1l;p1l,010", -112}, {"h;p1l;p1l,01,01,01,01,01,01", 2}, {"h;p1l;p1l,01,01,01,01,01,01,01", -127},
            {"h;p1l;p1l;p1l;p1l;p1l,0123", 5}, {"h;p1l;p1l;p1l;p1l;p1l,01234", -126}, {"h;p1l;p1l;p1l;p1l;p1l,0120", -125},
            {"h;p1l;p2l;p3l;p4l;p5l;p6l;p7l", 7}, {"h;p1l;p2l;p3l;p4l;p5l;p6l;p7l;p8l", -129},
            {"h;p1l;p2l;p3l;p4l;p5l;p6l;p7l,06,15", 7}, {"h;p1l;p2l;p3l;p4l;p5l;p6l;p7l,07", -131},
        };
        for (Object[] row : told) {
            HalfCuts x = new HalfCuts();
            String text = (String) row[0];
            due(2, text, read(x, text), (Integer) row[1]);
            due(33, "fault of " + text, x.fault(), 0);
            due(2, "cells of " + text, x.many(0), Math.max(0, (Integer) row[1]));
        }
        HalfCuts x = new HalfCuts();
        lay(x, 0, 2, 104 + 256, 59, 112, 49, 108);
        due(2, "a code that is h only when cut", x.circuit(0, 2, 0, 5), -100);
        lay(x, 0, 0, 104 + 256, 59, 112, 49, 108);
        due(2, "a code that is cut to h", x.circuit(0, 0, 0, 5), 1);
        due(2, "codes behind the n-th are not read", x.circuit(0, 0, 0, 3), -103);
        due(2, "codes behind the n-th are not read", x.circuit(0, 0, 0, 4), -104);
        lay(x, 0, 0, 'h', ';', 'p', '1', 'l', ';', 'b', '2', 'r', ',', '0', '1', '9');
        due(2, "codes behind the n-th are not read", x.circuit(0, 0, 0, 12), 2);
        due(2, "codes behind the n-th are not read", x.circuit(0, 0, 0, 11), -111);
        due(2, "codes behind the n-th are not read", x.circuit(0, 0, 0, 10), -110);
        due(2, "the last code is read", x.circuit(0, 0, 0, 13), -112);
    }

    private static void circuitRefusals() {
        HalfCuts x = new HalfCuts();
        due(2, "no sheet", x.circuit(4, 9, 0, 0), -1);
        due(2, "no sheet", x.circuit(-1, 0, 0, 0), -1);
        due(2, "lane 3", x.circuit(0, 3, 0, 0), -2);
        due(2, "lane -1", x.circuit(0, -1, 0, 0), -2);
        due(2, "nothing", x.circuit(0, 1, -1, -1), NULL);
        lay(x, 0, 1, 7, 'h', ';', 'p', '3', 'l', 9);
        due(2, "another lane", x.circuit(0, 2, 0, -1), CAST);
        due(2, "n below 0", x.circuit(0, 1, -1, -1), SIZE);
        due(2, "i below 0", x.circuit(0, 1, -1, 0), INDEX);
        due(2, "i at the end", x.circuit(0, 1, 7, 0), -100);
        due(2, "i beyond the end", x.circuit(0, 1, 8, 0), INDEX);
        due(2, "too many", x.circuit(0, 1, 1, 7), INDEX);
        due(2, "far too many", x.circuit(0, 1, 1, MOST), INDEX);
        due(33, "fault", x.fault(), 3);
        due(2, "from i on", x.circuit(0, 1, 1, 5), 1);
        due(33, "fault", x.fault(), 0);
    }

    private static void circuitMakesAnew() {
        HalfCuts x = made(FOUR);
        x.bound(HALF);
        x.rack(0, 3);
        x.reading(0, 5);
        x.tell(0);
        due(2, "not taken", read(x, "h;p1l,"), -106);
        due(2, "rack stays", x.many(3), 3);
        due(2, "readings stay", x.many(4), 1);
        due(2, "bound stays", x.bound(HALF), HALF);
        due(2, "cells stay", x.many(0), 4);
        due(2, "taken", read(x, "h;p1l"), 1);
        due(2, "rack is gone", x.stowed(0), NULL);
        due(2, "places are gone", x.many(3), 0);
        due(2, "readings are gone", x.many(4), 0);
        due(2, "bound is 1", x.bound(ONE), ONE);
        due(2, "nets are gone", x.many(1), 0);
        due(32, "trace stays", x.trace(), 1);
    }

    private static void cellsNetsSides() {
        HalfCuts x = made(FOUR);
        int[][] cells = {
            {0, 3, 3, 0, 0, 0b1011, 10, bits(3, 19), -2},
            {1, 2, 3, 0, 0, 0b0011, 9, bits(3, 19), -2},
            {2, 4, 8, 1, 0, 0b0110, 10, bits(8, 19), -2},
            {0, 5, 5, 1, 1, 0b1100, 10, bits(5, 19), -2},
        };
        for (int c = 0; c < 4; c++) {
            for (int what = 0; what <= 8; what++) {
                due(3, "ofCell " + c + " " + what, x.ofCell(c, what), cells[c][what]);
            }
            due(3, "ofCell what -1", x.ofCell(c, -1), -2);
        }
        due(3, "no cell", x.ofCell(4, 9), -1);
        due(3, "no cell", x.ofCell(-1, 0), -1);
        int[][] nets = {{0b0011, 0, 0, -2}, {0b0111, 0b0100, 1, -2}, {0b1100, 0b1100, 0, -2}, {0b1001, 0b1000, 1, -2}};
        for (int n = 0; n < 4; n++) {
            for (int what = 0; what <= 3; what++) {
                due(4, "ofNet " + n + " " + what, x.ofNet(n, what), nets[n][what]);
            }
            due(4, "ofNet what -1", x.ofNet(n, -1), -2);
        }
        due(4, "no net", x.ofNet(4, 9), -1);
        due(4, "no net", x.ofNet(-1, 0), -1);
        int[][] sides = {{0b0011, 6, bits(6, 19), 1, -2}, {0b1100, 13, bits(13, 19), 1, -2}};
        for (int side = 0; side < 2; side++) {
            for (int what = 0; what <= 4; what++) {
                due(5, "ofSide " + side + " " + what, x.ofSide(side, what), sides[side][what]);
            }
            due(5, "ofSide what -1", x.ofSide(side, -1), -2);
        }
        due(5, "side -1", x.ofSide(-1, 0), -2);
        due(5, "side 2", x.ofSide(2, 0), -2);
        HalfCuts lone = made("h;p7l");
        due(5, "share of an empty side", lone.ofSide(1, 2), 0);
        due(5, "share of the whole", lone.ofSide(0, 2), ONE);
        due(5, "an empty side", lone.ofSide(1, 0), 0);
    }

    private static void bulkAndBound() {
        HalfCuts x = made(FOUR);
        due(6, "no cell", x.bulk(4, 0), -1);
        due(6, "0", x.bulk(0, 0), -2);
        due(6, "10", x.bulk(0, 10), -2);
        due(6, "9", x.bulk(2, 9), 4);
        due(6, "1", x.bulk(2, 1), 9);
        due(6, "weight", x.ofCell(2, 2), 2);
        due(6, "of a fixed one", x.bulk(3, 1), 5);
        due(7, "below a half", x.bound(HALF - 1), -2);
        due(7, "above 1", x.bound(ONE + 1), -2);
        due(7, "none", x.bound(0x7fc00000), -2);
        due(7, "below 0", x.bound(0xbf400000), -2);
        due(7, "a half", x.bound(HALF), ONE);
        due(5, "left is beyond", x.ofSide(0, 3), 0);
        due(5, "right is within", x.ofSide(1, 3), 1);
        due(7, "at the share", x.bound(bits(6, 9)), HALF);
        due(5, "left is within at its share", x.ofSide(0, 3), 1);
        due(7, "just below the share", x.bound(bits(6, 9) - 1), bits(6, 9));
        due(5, "left is beyond just below", x.ofSide(0, 3), 0);
        due(7, "1", x.bound(ONE), bits(6, 9) - 1);
    }

    private static void movesAndPasses() {
        HalfCuts x = made(FOUR);
        due(8, "no cell", x.move(4), -1);
        due(8, "no cell", x.move(-1), -1);
        due(8, "fixed", x.move(3), -3);
        x.bound(HALF);
        due(8, "whatever the bound", x.move(0), 2);
        due(8, "right then", x.ofSide(1, 0), 0b1101);
        due(8, "and back", x.move(0), 2);
        due(8, "right then", x.ofSide(1, 0), 0b1100);

        HalfCuts tied = made("h;p1l;p5l;d4l;b9R,03,13,23");
        int[][] orders = {{0, 1, 2}, {2, 1, 0}, {0, 1, 2}};
        for (int manner = 0; manner < 3; manner++) {
            due(10, "moves", tied.tries(manner, 0), 3);
            due(10, "kept", tied.tries(manner, 1), 3);
            due(10, "cut", tied.tries(manner, 2), 0);
            for (int k = 0; k < 3; k++) {
                due(10, "order " + manner + " " + k, tied.tries(manner, 10 + k), orders[manner][k]);
            }
            for (int what = 13; what <= 16; what++) {
                due(10, "beyond the moves", tied.tries(manner, what), -9);
            }
        }
        due(10, "manner -1", tied.tries(-1, 0), -2);
        due(10, "manner 3", tied.tries(3, 0), -2);
        for (int what : new int[] {-1, 3, 9, 17, LEAST, MOST}) {
            due(10, "what " + what, tied.tries(0, what), -2);
        }
        due(10, "nothing is changed", tied.many(2), 3);
        due(9, "manner -1", tied.pass(-1), -2);
        due(9, "manner 3", tied.pass(3), -2);
        due(9, "pass", tied.pass(1), 3);
        due(9, "right then", tied.ofSide(1, 0), 0b1111);

        HalfCuts like = made("h;p2l;b1l;d1l;b3R,03,13,23");
        for (int manner = 0; manner < 3; manner++) {
            for (int k = 0; k < 3; k++) {
                due(10, "of several the least number", like.tries(manner, 10 + k), k);
            }
        }
        HalfCuts by = made("h;p9l;p2l;p1R,02,02,12");
        due(10, "greatest gain", by.tries(0, 10), 0);
        due(10, "greatest gain by weight", by.tries(2, 10), 1);
        due(9, "none gains: ahead of all moves", made("h;p1r;p1R,01").pass(0), 0);

        HalfCuts lone = made("h;p4l;p4r,01");
        due(10, "both go and come to one side", lone.tries(0, 0), 2);
        due(10, "first best stays", lone.tries(0, 1), 1);
        lone.bound(HALF);
        due(10, "none is within", lone.tries(0, 0), 0);
        due(9, "none is within", lone.pass(2), 0);
        lone.bound(ONE - 1);
        due(9, "all on one side is beyond", lone.pass(0), 0);
        lone.bound(ONE);
        due(9, "within at 1", lone.pass(0), 1);
        due(9, "cut then", lone.many(2), 0);

        HalfCuts lossy = made("h;p2l;p3r,01,01");
        due(9, "a loss ahead is not kept", lossy.pass(0), 1);
        HalfCuts two = made("h;p1l;p1l;p1R,01,01,02");
        due(10, "through a loss", two.tries(0, 10), 0);
        due(10, "to a gain", two.tries(0, 1), 2);
        due(9, "through a loss", two.pass(0), 2);
    }

    private static void settling() {
        HalfCuts x = made(FOUR);
        due(11, "manner 3", x.settle(3), -2);
        due(11, "manner -1", x.settle(-1), -2);
        due(11, "till none gains", x.settle(0), 2);
        due(11, "cut then", x.many(2), 0);
        due(11, "at once", x.settle(0), 1);
        due(11, "without nets", made("h;p1l").settle(2), 1);
        HalfCuts slow = made("h;d1l;p8L;d2r;b4l,0321,02,20,120");
        slow.bound(Float.floatToIntBits(0.96875f));
        due(11, "cut ahead", slow.many(2), 4);
        due(10, "first pass leaves", slow.tries(0, 2), 2);
        due(11, "more than two passes", slow.settle(0), 3);
        due(11, "cut then", slow.many(2), 1);
        due(11, "right then", slow.ofSide(1, 0), 0b1000);
    }

    private static void days() {
        HalfCuts x = made(FOUR);
        lay(x, 1, 1, 55, 0, 0, 9, 12, 0, 20, 0, 1);
        long[][] told = {
            {2, -9, 0b1100, 6, bits(6, 19), 10, 9, 10, 10, -9, -9, -9},
            {2, -9, 0b1101, 3, bits(3, 19), 10, 12, 9, 8, -9, -9, -9},
            {2, -9, 0b1101, 3, bits(3, 29), 10, 12, 9, 8, -9, -9, -9},
            {0, -9, 0b1111, 0, 0, 7, 8, 8, 8, -9, -9, -9},
        };
        for (int n = 0; n < 4; n++) {
            for (int what = 0; what <= 4; what++) {
                due(12, "day " + n + " " + what, x.day(1, 1, 1, n, what), told[n][what]);
            }
            for (int what = 10; what <= 16; what++) {
                due(12, "day " + n + " " + what, x.day(1, 1, 1, n, what), told[n][what - 5]);
            }
        }
        due(12, "nothing is changed", x.ofSide(1, 0), 0b1100);
        due(12, "nothing is changed", x.ofCell(2, 1), 4);
        int[] wrongs = {0, 0, 0, 3, 0, 0};
        lay(x, 1, 2, wrongs);
        for (int what : new int[] {0, 2, 3, 4, 10, 13, 16}) {
            due(12, "fixed one moves, what " + what, x.day(1, 2, 0, 3, what), -101);
        }
        due(12, "first wrong", x.day(1, 2, 0, 3, 1), 1);
        due(12, "ahead of it", x.day(1, 2, 0, 1, 1), -9);
        lay(x, 1, 2, 7, 13, 0, 0, 7, 14, 0, 3);
        due(12, "bulk of a fixed one can be, of none can't", x.day(1, 2, 0, 4, 1), 2);
        lay(x, 1, 2, 9, 10, 8, 11);
        due(12, "weights of the left by new bulks", x.day(1, 2, 0, 2, 3), 18);
        due(12, "share of the left by new bulks", x.day(1, 2, 0, 2, 4), bits(18, 31));
        lay(x, 1, 2, 0, 4, 0, 7);
        due(12, "no such cell", x.day(1, 2, 0, 1, 1), 0);
        due(12, "outside behind a first wrong", x.day(1, 2, 0, 2, 1), -2);
        x.bound(bits(13, 19));
        lay(x, 1, 2, 0, 20, 0, 20);
        due(12, "a pass by the bound", x.day(1, 2, 0, 1, 2), 0b1100);
        int[] flips = new int[40];
        lay(x, 1, 2, flips);
        due(12, "20 pairs", x.day(1, 2, 0, 20, 2), 0b1100);
        due(12, "19 pairs", x.day(1, 2, 2, 19, 2), 0b1101);
    }

    private static void dayRefusals() {
        HalfCuts x = new HalfCuts();
        due(12, "no sheet", x.day(4, 9, 0, 99, 99), -1);
        due(12, "no sheet", x.day(-1, 0, 0, 0, 0), -1);
        due(12, "nothing, no circuit", x.day(0, 0, 0, 0, 0), NULL);
        lay(x, 0, 0, 0, 9, 0);
        due(12, "no circuit", x.day(0, 0, 0, 1, 0), -3);
        due(33, "refused", x.fault(), 0);
        due(12, "index ahead of no circuit", x.day(0, 0, 0, 2, 0), INDEX);
        due(2, "circuit", read(x, FOUR), 4);
        due(12, "lane", x.day(0, 3, 0, 0, 0), -2);
        due(12, "lane", x.day(0, -1, 0, 0, 0), -2);
        due(12, "n -1", x.day(0, 1, 0, -1, 0), -2);
        due(12, "n 21", x.day(0, 1, 0, 21, 0), -2);
        for (int what : new int[] {-1, 5, 9, 17, LEAST, MOST}) {
            due(12, "what " + what, x.day(0, 1, 0, 0, what), -2);
        }
        due(12, "another lane", x.day(0, 1, 9, 1, 0), CAST);
        due(12, "i -1", x.day(0, 0, -1, 0, 0), INDEX);
        due(12, "i 3", x.day(0, 0, 3, 0, 0), 2);
        due(12, "i 4", x.day(0, 0, 4, 0, 0), INDEX);
        due(12, "i 2, one pair", x.day(0, 0, 2, 1, 0), INDEX);
        due(12, "i MOST", x.day(0, 0, MOST, 20, 0), INDEX);
        due(12, "second 9", x.day(0, 0, 0, 1, 0), -2);
        int[][] bad = {{1, 0}, {-1, 0}, {0, -1}, {0, 7}, {0, 9}, {0, 10}, {10, 10}, {1, 17}, {0, 19}, {-1, 20}, {3, 20}, {0, 21}};
        for (int[] pair : bad) {
            lay(x, 0, 2, pair);
            due(12, "pair " + pair[0] + " " + pair[1], x.day(0, 2, 0, 1, 1), -2);
        }
        int[][] good = {{1, 10}, {9, 10}, {1, 12}, {0, 20}, {1, 20}, {2, 20}, {0, 2}};
        for (int[] pair : good) {
            lay(x, 0, 2, pair);
            due(12, "pair " + pair[0] + " " + pair[1], x.day(0, 2, 0, 1, 1), -9);
        }
    }

    private static void leastCut() {
        HalfCuts x = made(FOUR);
        due(13, "what 2", x.least(2), -2);
        due(13, "what -1", x.least(-1), -2);
        due(13, "fewest", x.least(0), 0);
        due(13, "the set, fixed ones too", x.least(1), 0b1111);
        x.bound(bits(14, 19));
        due(13, "fewest by a bound", x.least(0), 2);
        due(13, "the set by a bound", x.least(1), 0b1000);
        x.bound(HALF);
        due(13, "by none", x.least(0), -9);
        due(13, "by none", x.least(1), -9);
        due(13, "of several the least", made("h;p1l;p1r").least(1), 0);
        due(13, "fixed ones stay", made("h;p1L;p1R,01").least(0), 1);
        due(13, "fixed ones stay", made("h;p1L;p1R,01").least(1), 2);
        due(13, "all six", made("h;p1L;p1R,01,01,01,01,01,01").least(0), 6);
        due(13, "all six", made("h;p1L;p1R,01,01,01,01,01,01").least(1), 2);
    }

    private static void apartAndClosest() {
        HalfCuts x = made(FOUR);
        due(14, "both the same", x.apart(1, 1), -1);
        due(14, "no such first", x.apart(4, 0), -1);
        due(14, "no such second", x.apart(0, -1), -1);
        due(14, "0 and 1", x.apart(0, 1), 2);
        due(14, "0 and 3", x.apart(0, 3), 2);
        due(14, "3 and 0, fixed there", x.apart(3, 0), 2);
        due(14, "2 and 3", x.apart(2, 3), 2);
        x.bound(HALF);
        due(14, "whatever the bound", x.apart(0, 1), 2);
        due(14, "without nets", made("h;p1l;p1l").apart(0, 1), 0);
        due(14, "six nets", made("h;p1l;p1l,01,01,01,01,01,01").apart(1, 0), 6);
        due(15, "what 3", x.closest(3), -2);
        due(15, "what -1", x.closest(-1), -2);
        due(15, "shared", x.closest(0), 2);
        due(15, "first", x.closest(1), 0);
        due(15, "second", x.closest(2), 1);
        HalfCuts late = made("h;p1l;p1l;p1l;p1l,03,12,23,12,13,13");
        due(15, "of several: shared", late.closest(0), 2);
        due(15, "of several: first", late.closest(1), 1);
        due(15, "of several: second", late.closest(2), 2);
        HalfCuts loose = made("h;p1l;p1l");
        due(15, "none shared", loose.closest(0), 0);
        due(15, "none shared: first", loose.closest(1), 0);
        due(15, "none shared: second", loose.closest(2), 1);
        due(15, "one cell", made("h;p1l").closest(9), -3);
    }

    private static void racks() {
        HalfCuts x = made(FOUR);
        due(17, "no rack", x.stow(0, 0), NULL);
        due(17, "no cell", x.stow(0, 4), -1);
        due(33, "refused", x.fault(), 0);
        due(18, "no rack", x.stowed(-1), NULL);
        due(16, "kind 3", x.rack(3, -1), -2);
        due(16, "kind -1", x.rack(-1, 0), -2);
        due(16, "10 places", x.rack(0, 10), -2);
        due(16, "-1 places", x.rack(0, -1), SIZE);
        due(16, "none yet", x.stowed(0), NULL);
        due(16, "9 places", x.rack(0, 9), 9);
        for (int i = 0; i < 9; i++) {
            due(18, "nothing stands there", x.stowed(i), -9);
        }
        due(18, "place 9", x.stowed(9), INDEX);
        due(18, "place -1", x.stowed(-1), INDEX);
        for (int c = 0; c < 4; c++) {
            due(17, "each is a plain one", x.stow(8 - c, c), 1);
            due(18, "stands there", x.stowed(8 - c), c);
        }
        due(17, "once more", x.stow(8, 2), 1);
        due(18, "once more", x.stowed(8), 2);
        due(17, "place 9", x.stow(9, 0), INDEX);
        due(17, "place -1", x.stow(-1, 0), INDEX);
        due(16, "bulky", x.rack(1, 2), 2);
        due(18, "a new one", x.stowed(1), -9);
        due(17, "a plain one", x.stow(1, 0), STORE);
        due(17, "index ahead of store", x.stow(2, 0), INDEX);
        due(17, "a bulky one", x.stow(1, 1), 1);
        due(17, "a double one", x.stow(0, 2), 1);
        due(17, "a plain one", x.stow(1, 3), STORE);
        due(18, "store changes nothing", x.stowed(1), 1);
        due(16, "double", x.rack(2, 1), 1);
        due(17, "a bulky one", x.stow(0, 1), STORE);
        due(17, "a double one", x.stow(0, 2), 1);
        due(16, "a refusal leaves it", x.rack(2, -1), SIZE);
        due(18, "still there", x.stowed(0), 2);
        due(16, "no places", x.rack(2, 0), 0);
        due(18, "no places", x.stowed(0), INDEX);
    }

    private static void readings() {
        HalfCuts x = made(FOUR);
        due(21, "no cell", x.kinds(4), -1);
        due(22, "no cell", x.bulks(4), -1);
        due(21, "without readings", x.kinds(0), 0b111);
        due(22, "without readings", x.bulks(0), 0b1111111110);
        due(19, "no cell", x.reading(4, -1), -1);
        due(19, "below 0", x.reading(0, -1), -2);
        due(19, "above 1", x.reading(0, ONE + 1), -2);
        due(19, "first", x.reading(0, bits(6, 22)), 0);
        due(21, "a double one", x.kinds(0), 0b100);
        due(22, "bulk 6", x.bulks(0), 1 << 6);
        due(21, "of another", x.kinds(1), 0);
        due(19, "second", x.reading(2, bits(8, 22)), 1);
        due(21, "both so", x.kinds(0), 0b100);
        due(21, "both are not so", x.kinds(2), 0);
        due(20, "-1", x.back(-1), -2);
        due(20, "3", x.back(3), -2);
        due(20, "0", x.back(0), 2);
        due(20, "2", x.back(2), 0);
        due(19, "as it is", x.reading(2, bits(8, 19)), 0);
        due(21, "as it is", x.kinds(2), 0b100);
        due(22, "as it is", x.bulks(2), 1 << 4);
        due(22, "of another", x.bulks(3), 1 << 5);
        due(21, "of another", x.kinds(3), 0b001);
        due(20, "1", x.back(1), 0);
        x.bulk(1, 1);
        due(19, "weight 2 by 18", x.reading(1, bits(2, 18)), 0);
        due(21, "bulky or double", x.kinds(1), 0b110);
        due(20, "1", x.back(1), 0);
        due(19, "one bit off", x.reading(1, bits(2, 18) + 1), 0);
        due(21, "none", x.kinds(1), 0);
        for (int k = 1; k < 8; k++) {
            due(19, "reading " + k, x.reading(0, k % 2 == 0 ? 0 : ONE), k);
        }
        due(19, "full", x.reading(0, 0), -4);
        due(19, "outside ahead of full", x.reading(0, -1), -2);
        due(34, "readings", x.many(4), 8);
        due(20, "one less", x.back(1), 7);
        due(19, "again", x.reading(0, 0), 7);
    }

    private static void odds() {
        HalfCuts x = made(FOUR);
        long[][] told = {{1, 8}, {1, 8}, {5, 8}, {7, 8}, {1, 1}, {1, 1}, {1, 1}};
        for (int v = 0; v <= 6; v++) {
            due(23, "upper of " + v, x.odds(v, 0), told[v][0]);
            due(23, "lower of " + v, x.odds(v, 1), told[v][1]);
        }
        x.bound(HALF);
        due(23, "whatever the bound", x.odds(0, 1), 8);
        due(23, "v 7", x.odds(7, 0), HalfCuts.LOST);
        due(23, "v -1", x.odds(-1, 0), HalfCuts.LOST);
        due(23, "which 2", x.odds(0, 2), HalfCuts.LOST);
        due(23, "which -1", x.odds(0, -1), HalfCuts.LOST);
        HalfCuts never = made("h;p1L;p1R;p1l,01");
        due(23, "never: upper", never.odds(0, 0), 0);
        due(23, "never: lower", never.odds(0, 1), 1);
        HalfCuts seven = made("h;p1l;p1l;p1l;p1l;p1l;p1l;p1l,01,12,23,34,45,56");
        due(23, "seven free: upper", seven.odds(0, 0), 1);
        due(23, "seven free: lower", seven.odds(0, 1), 64);
        due(23, "seven free: upper", seven.odds(2, 0), 11);
        due(23, "seven free: lower", seven.odds(2, 1), 32);
    }

    private static void sheets() {
        HalfCuts x = new HalfCuts();
        due(24, "sheet 4", x.sheet(4, 9, 0), -1);
        due(24, "sheet -1", x.sheet(-1, 0, 0), -1);
        due(24, "lane 3", x.sheet(0, 3, -1), -2);
        due(24, "lane -1", x.sheet(0, -1, 0), -2);
        due(24, "61", x.sheet(0, 0, 61), -2);
        due(24, "-1", x.sheet(0, 0, -1), SIZE);
        due(24, "still nothing", x.put(0, 0, 0), NULL);
        due(26, "sheet 4", x.put(4, 0, 0), -1);
        due(25, "sheet 4", x.lose(4), -1);
        due(25, "sheet -1", x.lose(-1), -1);
        due(27, "sheet 4", x.cell(4, 0, 0), HalfCuts.LOST);
        due(27, "lane 3", x.cell(0, 0, 3), HalfCuts.LOST);
        due(33, "refused", x.fault(), 0);
        due(27, "nothing", x.cell(0, 0, 2), HalfCuts.LOST);
        due(33, "null", x.fault(), 1);
        int[] kept = {(byte) 0x12345678, (short) 0x1234f678, 0x1234f678};
        int[] put = {0x12345678, 0x1234f678, 0x1234f678};
        for (int lane = 0; lane < 3; lane++) {
            due(24, "60", x.sheet(lane, lane, 60), 1);
            due(27, "0 at first", x.cell(lane, 59, lane), 0);
            due(26, "put", x.put(lane, 59, put[lane]), 1);
            due(27, "cut to its lane", x.cell(lane, 59, lane), kept[lane]);
            due(26, "put 200", x.put(lane, 0, 200), 1);
            due(27, "200", x.cell(lane, 0, lane), lane == 0 ? -56 : 200);
            due(26, "60", x.put(lane, 60, 1), INDEX);
            due(26, "-1", x.put(lane, -1, 1), INDEX);
            due(27, "60", x.cell(lane, 60, lane), HalfCuts.LOST);
            due(33, "index", x.fault(), 3);
            due(27, "another lane", x.cell(lane, 60, (lane + 1) % 3), HalfCuts.LOST);
            due(33, "cast", x.fault(), 2);
            due(24, "anew", x.sheet(lane, lane, 60), 1);
            due(27, "0 at first", x.cell(lane, 59, lane), 0);
        }
        due(24, "shorter", x.sheet(0, 2, 1), 1);
        due(27, "beyond", x.cell(0, 1, 2), HalfCuts.LOST);
        due(24, "empty", x.sheet(0, 2, 0), 1);
        due(26, "empty", x.put(0, 0, 0), INDEX);
        due(25, "empty is a row", x.lose(0), 1);
        due(25, "lost", x.lose(0), 0);
        due(27, "lost", x.cell(0, 0, 2), HalfCuts.LOST);
        due(33, "null", x.fault(), 1);
    }

    private static void copies() {
        HalfCuts x = new HalfCuts();
        due(28, "sheet 4", x.copy(4, 0, 0, 0, 0), -1);
        due(28, "other 4", x.copy(0, 0, 4, 0, 0), -1);
        due(28, "nothing", x.copy(0, 0, 1, 0, 0), NULL);
        lay(x, 0, 1, 1, 2, 3, 4, 5);
        due(28, "the other has nothing", x.copy(0, 9, 1, 0, 0), NULL);
        due(28, "the first has nothing", x.copy(1, 0, 0, 0, 0), NULL);
        lay(x, 1, 2, 6, 7, 8);
        due(28, "unlike lanes", x.copy(0, 9, 1, 0, 0), CAST);
        due(28, "within itself, up", x.copy(0, 0, 0, 1, 4), 4);
        int[] up = {1, 1, 2, 3, 4};
        for (int i = 0; i < 5; i++) {
            due(28, "as they were", x.cell(0, i, 1), up[i]);
        }
        lay(x, 2, 1, 6, 7, 8);
        due(28, "two of them", x.copy(0, 3, 2, 1, 2), 2);
        int[] then = {6, 3, 4};
        for (int i = 0; i < 3; i++) {
            due(28, "two of them", x.cell(2, i, 1), then[i]);
        }
        due(28, "none, at the ends", x.copy(0, 5, 2, 3, 0), 0);
        int[][] beyond = {{6, 0, 0}, {-1, 0, 0}, {0, 4, 0}, {0, -1, 0}, {0, 0, -1}, {0, 0, 4}, {3, 0, 3}, {0, 2, 2},
            {MOST, 0, 1}, {0, 0, MOST}, {1, 1, MOST}, {LEAST, 0, LEAST}};
        for (int[] b : beyond) {
            due(28, "beyond", x.copy(0, b[0], 2, b[1], b[2]), INDEX);
        }
        for (int i = 0; i < 3; i++) {
            due(28, "unchanged", x.cell(2, i, 1), then[i]);
        }
    }

    private static void telling() {
        HalfCuts x = made(FOUR);
        due(29, "no cell", x.tell(4), -1);
        due(29, "plain", x.tell(0), 3);
        due(32, "plain", x.trace(), 1);
        due(29, "bulky", x.tell(1), 102);
        due(32, "bulky", x.trace(), (1 * 31 + 2) * 31 + 1);
        int trace = x.trace();
        due(29, "double", x.tell(2), 108);
        for (int body : new int[] {3, 2, 1, 1}) {
            trace = trace * 31 + body;
        }
        due(32, "double", x.trace(), trace);
        due(30, "no cell", x.probe(-1), -1);
        due(30, "plain", x.probe(0), 3);
        due(30, "bulky", x.probe(1), 2);
        due(30, "double", x.probe(2), 20);
        for (int body : new int[] {4, 4, 5}) {
            trace = trace * 31 + body;
        }
        due(32, "probed, and wrapped", x.trace(), trace);
        for (int c = 0; c < 4; c++) {
            int kind = x.ofCell(c, 0);
            for (int as = 0; as < 3; as++) {
                due(31, "as " + as, x.as(c, as), as <= kind ? 1 : CAST);
                due(33, "as " + as, x.fault(), as <= kind ? 0 : 2);
            }
        }
        due(31, "kind 3", x.as(0, 3), -2);
        due(31, "kind -1", x.as(0, -1), -2);
        due(31, "no cell", x.as(4, 3), -1);
        due(32, "unchanged", x.trace(), trace);
    }

    private static void faults() {
        HalfCuts x = made(FOUR);
        due(33, "size", x.rack(0, -1), SIZE);
        x.ofCell(9, 9);
        x.ofNet(0, 0);
        x.ofSide(9, 0);
        x.bulk(0, 3);
        x.bound(0);
        x.move(9);
        x.pass(9);
        x.tries(0, 0);
        x.settle(9);
        x.least(0);
        x.apart(0, 1);
        x.closest(0);
        x.reading(9, 0);
        x.back(0);
        x.kinds(0);
        x.bulks(0);
        x.odds(0, 0);
        x.lose(0);
        x.tell(0);
        x.probe(0);
        x.trace();
        x.many(0);
        due(33, "calls that name none leave it", x.fault(), 4);
        due(33, "itself too", x.fault(), 4);
        due(33, "rack", x.rack(0, 1), 1);
        due(33, "rack came to none", x.fault(), 0);
        for (int call = 0; call < CLEARING; call++) {
            due(33, "index", x.stowed(1), INDEX);
            due(33, "index", x.fault(), 3);
            clear(x, call);
            due(33, "behind call " + call + " that came to none", x.fault(), 0);
        }
        due(33, "store", x.rack(2, 1), 1);
        due(33, "store", x.stow(0, 0), STORE);
        due(33, "store", x.fault(), 5);
        due(33, "stowed came to none", x.stowed(0), -9);
        due(33, "stowed came to none", x.fault(), 0);
        HalfCuts none = new HalfCuts();
        due(33, "null", none.stowed(0), NULL);
        due(33, "rack without a circuit", none.rack(0, -1), -3);
        due(33, "rack was refused", none.fault(), 0);
        due(33, "sheet", none.sheet(0, 0, 2), 1);
        due(33, "null", none.stowed(0), NULL);
        due(33, "day without a circuit", none.day(0, 0, 0, 1, 0), -3);
        due(33, "day was refused", none.fault(), 0);
    }

    private static final int CLEARING = 23;

    /** Calls that name FAULTS, and are refused or come to none; sheet 0 has two shorts, the rack one place. */
    private static void clear(HalfCuts x, int call) {
        switch (call) {
            case 0: due(33, "circuit", x.circuit(4, 0, 0, 0), -1); break;
            case 1: due(33, "circuit", x.circuit(0, 9, 0, 0), -2); break;
            case 2: due(33, "sheet", x.sheet(4, 0, 0), -1); break;
            case 3: due(33, "sheet", x.sheet(0, 3, 0), -2); break;
            case 4: due(33, "sheet", x.sheet(0, 1, 2), 1); break;
            case 5: due(33, "circuit", x.circuit(0, 1, 0, 2), -100); break;
            case 6: due(33, "day", x.day(4, 0, 0, 0, 0), -1); break;
            case 7: due(33, "day", x.day(0, 0, 0, -1, 0), -2); break;
            case 8: due(33, "day", x.day(0, 1, 0, 1, 1), -9); break;
            case 9: due(33, "put", x.put(4, 0, 0), -1); break;
            case 10: due(33, "put", x.put(0, 0, 5), 1); break;
            case 11: due(33, "day", x.day(0, 1, 0, 1, 1), -2); break;
            case 12: due(33, "rack", x.rack(9, 0), -2); break;
            case 13: due(33, "rack", x.rack(0, 1), 1); break;
            case 14: due(33, "stow", x.stow(0, 9), -1); break;
            case 15: due(33, "stow", x.stow(0, 0), 1); break;
            case 16: due(33, "cell", x.cell(4, 0, 0), HalfCuts.LOST); break;
            case 17: due(33, "cell", x.cell(0, 0, 1), 5); break;
            case 18: due(33, "copy", x.copy(4, 0, 0, 0, 0), -1); break;
            case 19: due(33, "copy", x.copy(0, 0, 0, 1, 1), 1); break;
            case 20: due(33, "as", x.as(0, 9), -2); break;
            case 21: due(33, "as", x.as(9, 0), -1); break;
            default: due(33, "as", x.as(0, 0), 1); break;
        }
    }

    private static void counts() {
        HalfCuts x = made(FOUR);
        x.rack(0, 5);
        x.reading(0, 0);
        int[] told = {4, 4, 2, 5, 1};
        for (int what = 0; what < 5; what++) {
            due(34, "many " + what, x.many(what), told[what]);
        }
        due(34, "many 5", x.many(5), -2);
        due(34, "many -1", x.many(-1), -2);
    }
}
