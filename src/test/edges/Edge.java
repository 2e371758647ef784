import java.util.function.Supplier;
import java.util.function.ToLongFunction;

/** What the tests of the edges share: answers as the document tells them, objects to begin with, checks. */
abstract class Edge {
    static final int UNKNOWN = -1, OUTSIDE = -2, STATE = -3, FULL = -4, NONE = -9;
    static final int NULL = 1, CAST = 2, INDEX = 3, SIZE = 4, STORE = 5;
    static final long LOST = Long.MIN_VALUE;
    static final int HALF = 1056964608, ONE = 1065353216;
    static final int LEAST = Integer.MIN_VALUE, MOST = Integer.MAX_VALUE;
    /** Weights 3, 3, 8 and 5, of 19; the last cell is fixed on the right; two nets are cut. */
    static final String FOUR = "h;p3l;b2l;d4r;p5R,01,012,23,03";
    static final String SEVEN = "h;p1l;b2r;d3l;p4r;b5l;d6r;p7l,06,15";

    private static int checks;
    private static int wrong;

    static int checksSoFar() {
        return checks;
    }

    static int wrongSoFar() {
        return wrong;
    }

    static void due(String what, long got, long want) {
        checks++;
        if (got != want) {
            wrong++;
            System.out.println("    " + what + " answered " + got + ", due is " + want);
        }
    }

    private static void dueSame(String what, String got, String want) {
        checks++;
        if (!got.equals(want)) {
            wrong++;
            System.out.println("    " + what + " changed something:\n      " + want + "\n      " + got);
        }
    }

    // ---- objects to begin with

    static void lay(HalfCuts x, int k, int lane, int... numbers) {
        due("sheet for a row", x.sheet(k, lane, numbers.length), 1);
        for (int i = 0; i < numbers.length; i++) {
            due("put in a row", x.put(k, i, numbers[i]), 1);
        }
    }

    static int read(HalfCuts x, String text) {
        lay(x, 3, 2, text.chars().toArray());
        return x.circuit(3, 2, 0, text.length());
    }

    /** What circuit answers of a text, told to a new object. */
    static int told(String text) {
        return read(new HalfCuts(), text);
    }

    static HalfCuts made(String text) {
        HalfCuts x = new HalfCuts();
        due(text, read(x, text), text.chars().filter(code -> code == ';').count());
        return x;
    }

    static HalfCuts madeWithin(String text, int bound) {
        HalfCuts x = made(text);
        due("bound", x.bound(bound), ONE);
        return x;
    }

    /** Something everywhere: sheets 0, 1 and 3, a circuit, a bound, a rack, readings, a trace; the latest fault is STORE. */
    static HalfCuts busy() {
        HalfCuts x = madeWithin(FOUR, bits(3, 4));
        lay(x, 0, 0, 5, -7, 9);
        lay(x, 1, 2, 0, 1, 9, 12, 1, 20, 1000000);
        due("rack", x.rack(1, 3), 3);
        due("stow", x.stow(1, 2), 1);
        due("reading", x.reading(2, bits(8, 19)), 0);
        due("reading", x.reading(0, bits(3, 19)), 1);
        due("tell", x.tell(1), 102);
        due("stow", x.stow(0, 0), -10 - STORE);
        return x;
    }

    /** No circuit; sheet 0 has two bytes; the latest fault is SIZE. */
    static HalfCuts bare() {
        HalfCuts x = new HalfCuts();
        lay(x, 0, 0, 0, 9);
        due("sheet", x.sheet(1, 0, -1), -10 - SIZE);
        return x;
    }

    // ---- floats, worked out by the machine's own division

    static int bits(int upper, int lower) {
        return Float.floatToIntBits((float) upper / (float) lower);
    }

    // ---- refusals and faults: the answer, fault() behind it, and that nothing else is changed

    /** Of a call that names no FAULTS: fault() stays. */
    static void refused(String what, Supplier<HalfCuts> begin, ToLongFunction<HalfCuts> call, long answer) {
        changesNothing(what, begin, call, answer, begin.get().fault());
    }

    /** Of a call that names FAULTS: fault() is 0. */
    static void refusedNamingFaults(String what, Supplier<HalfCuts> begin, ToLongFunction<HalfCuts> call, long answer) {
        if (begin.get().fault() == 0) {
            due(what + ": a fault to begin with", 0, 1);
        }
        changesNothing(what, begin, call, answer, 0);
    }

    static void faulted(String what, Supplier<HalfCuts> begin, ToLongFunction<HalfCuts> call, int fault) {
        faultedAs(what, begin, call, -10 - fault, fault);
    }

    /** Of a call that answers a long. */
    static void lostBy(String what, Supplier<HalfCuts> begin, ToLongFunction<HalfCuts> call, int fault) {
        faultedAs(what, begin, call, LOST, fault);
    }

    private static void faultedAs(String what, Supplier<HalfCuts> begin, ToLongFunction<HalfCuts> call, long answer,
            int fault) {
        if (begin.get().fault() == fault) {
            due(what + ": another fault to begin with", fault, 0);
        }
        changesNothing(what, begin, call, answer, fault);
    }

    /** Two objects that are alike, of which one is called: all that can be told of them must be alike still. */
    static void changesNothing(String what, Supplier<HalfCuts> begin, ToLongFunction<HalfCuts> call, long answer,
            int faultThen) {
        HalfCuts called = begin.get();
        HalfCuts twin = begin.get();
        due(what, call.applyAsLong(called), answer);
        due(what + ": fault()", called.fault(), faultThen);
        dueSame(what, all(called), all(twin));
    }

    /** All that can be told of an object but fault(); it is used up by that. */
    static String all(HalfCuts x) {
        StringBuilder b = new StringBuilder("many");
        for (int what = 0; what <= 4; what++) {
            b.append(' ').append(x.many(what));
        }
        b.append("; trace ").append(x.trace());
        circuitOf(x, b);
        for (int k = 0; k < 4; k++) {
            sheetOf(x, k, b);
        }
        rackOf(x, b);
        readingsOf(x, b);
        return b.toString();
    }

    private static void circuitOf(HalfCuts x, StringBuilder b) {
        for (int c = 0; c < x.many(0); c++) {
            b.append("; cell");
            for (int what = 0; what <= 7; what++) {
                b.append(' ').append(x.ofCell(c, what));
            }
        }
        for (int n = 0; n < x.many(1); n++) {
            b.append("; net ").append(x.ofNet(n, 0)).append(' ').append(x.ofNet(n, 1));
        }
        if (x.many(0) > 0) {
            int bound = x.bound(ONE);
            b.append("; bound ").append(bound);
            x.bound(bound);
        }
    }

    private static void sheetOf(HalfCuts x, int k, StringBuilder b) {
        b.append("; sheet");
        for (int lane = 0; lane < 3; lane++) {
            x.cell(k, -1, lane);
            b.append(' ').append(x.fault());
            if (x.fault() == INDEX) {
                for (int i = 0; x.cell(k, i, lane) != LOST; i++) {
                    b.append(' ').append(x.cell(k, i, lane));
                }
            }
        }
    }

    private static void rackOf(HalfCuts x, StringBuilder b) {
        b.append("; rack");
        for (int i = 0; i <= x.many(3); i++) {
            b.append(' ').append(x.stowed(i));
        }
        for (int c = 0; c < x.many(0); c++) {
            b.append(' ').append(x.stow(0, c));
        }
    }

    private static void readingsOf(HalfCuts x, StringBuilder b) {
        b.append("; readings");
        for (int left = x.many(4); left >= 0; left--) {
            for (int c = 0; c < x.many(0); c++) {
                b.append(' ').append(x.kinds(c)).append(' ').append(x.bulks(c));
            }
            x.back(1);
        }
    }
}
