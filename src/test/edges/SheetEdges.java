/** Promises 24 to 34, and what the Terms say of sheets and of telling. */
final class SheetEdges extends Edge {
    /** One cell of each kind: BULK 3, of 2 nets; BULK 4, of 1 net; BULK 5, of 1 net; BULK 6, of none. */
    private static final String KINDS = "h;p3l;b4l;d5l;p6r,01,02";
    private static final int[] FAR = {LEAST, -1, 4, MOST};

    private static void rowIs(HalfCuts x, int k, int lane, int... numbers) {
        for (int i = 0; i < numbers.length; i++) {
            due("cell " + i, x.cell(k, i, lane), numbers[i]);
        }
        due("cell " + numbers.length, x.cell(k, numbers.length, lane), LOST);
    }

    // ---- sheets

    @Says("SHEETS 0 .. 3 have nothing (at first),")
    static void terms_sheets_0_to_3_have_nothing_at_first() {
        for (int k = 0; k < 4; k++) {
            HalfCuts x = new HalfCuts();
            due("lose", x.lose(k), 0);
            due("put", x.put(k, 0, 0), -10 - NULL);
            for (int lane = 0; lane < 3; lane++) {
                x.cell(k, 0, lane);
                due("cell", x.fault(), NULL);
            }
        }
        due("SHEET 4", new HalfCuts().sheet(4, 0, 0), UNKNOWN);
    }

    @Says("or a row of 0 .. 60 numbers")
    static void terms_a_row_has_0_to_60_numbers() {
        HalfCuts x = new HalfCuts();
        due("none", x.sheet(0, 0, 0), 1);
        due("put to none", x.put(0, 0, 1), -10 - INDEX);
        due("60", x.sheet(0, 0, 60), 1);
        due("the last", x.put(0, 59, 1), 1);
        due("one beyond", x.put(0, 60, 1), -10 - INDEX);
        due("61", x.sheet(0, 0, 61), OUTSIDE);
    }

    @Says("(0 at first) of a LANE:")
    static void terms_numbers_are_0_at_first() {
        HalfCuts x = new HalfCuts();
        for (int lane = 0; lane < 3; lane++) {
            due("sheet", x.sheet(1, lane, 60), 1);
            for (int i = 0; i < 60; i++) {
                due("cell " + i, x.cell(1, i, lane), 0);
                x.put(1, i, 77);
            }
        }
    }

    @Says("0 bytes, 1 shorts, 2 ints;")
    static void terms_lanes_are_bytes_shorts_ints() {
        long[][] most = {{127, 128, -128}, {32767, 32768, -32768}, {MOST, 0, 0}};
        for (int lane = 0; lane < 3; lane++) {
            HalfCuts x = new HalfCuts();
            x.sheet(0, lane, 2);
            x.put(0, 0, (int) most[lane][0]);
            due("the most of lane " + lane, x.cell(0, 0, lane), most[lane][0]);
            x.put(0, 1, (int) most[lane][1]);
            due("one more in lane " + lane, x.cell(0, 1, lane), most[lane][2]);
            x.put(0, 0, (int) -most[lane][0] - 1);
            due("the least of lane " + lane, x.cell(0, 0, lane), -most[lane][0] - 1);
        }
    }

    @Says("what comes to a cell of it is cut to its LANE.")
    static void terms_what_comes_to_a_cell_is_cut() {
        int[] come = {127, 128, 255, 256, -129, 32767, 32768, 65535, 65536, -32769, LEAST, MOST, 0x12345678};
        for (int v : come) {
            HalfCuts x = new HalfCuts();
            x.sheet(0, 0, 1);
            x.sheet(1, 1, 1);
            x.sheet(2, 2, 1);
            for (int k = 0; k < 3; k++) {
                due("put", x.put(k, 0, v), 1);
            }
            due("bytes", x.cell(0, 0, 0), (byte) v);
            due("shorts", x.cell(1, 0, 1), (short) v);
            due("ints", x.cell(2, 0, 2), v);
        }
    }

    // ---- telling

    private static int traced(int trace, int... bodies) {
        int then = trace;
        for (int body : bodies) {
            then = 31 * then + body;
        }
        return then;
    }

    @Says("TELLING of CELLS by bodies that leave their number in TRACE")
    static void terms_bodies_leave_their_numbers() {
        HalfCuts x = made(KINDS);
        x.tell(0);
        due("PLAIN", x.trace(), 1);
        x.tell(1);
        due("BULKY behind it", x.trace(), traced(0, 1, 2, 1));
        x.probe(0);
        due("probed behind it", x.trace(), traced(0, 1, 2, 1, 4));
    }

    @Says("(an int that wraps,")
    static void terms_trace_wraps() {
        HalfCuts x = made(KINDS);
        int trace = 0;
        for (int k = 0; k < 40; k++) {
            x.probe(2);
            trace = traced(trace, 5);
            due("behind " + (k + 1), x.trace(), trace);
        }
        long whole = 5L * (1 + 31 + 961 + 29791 + 923521 + 28629151 + 887503681);
        due("behind 7 it would be beyond an int", whole > MOST ? 1 : 0, 1);
        due("behind 7", traced(0, 5, 5, 5, 5, 5, 5, 5), (int) whole);
    }

    @Says("0 at first, becomes 31 times it and the number)")
    static void terms_trace_is_0_at_first_and_becomes_31_times_it() {
        HalfCuts x = made(KINDS);
        due("at first", x.trace(), 0);
        x.tell(3);
        due("1", x.trace(), 1);
        x.tell(3);
        due("31 and 1", x.trace(), 32);
        x.probe(3);
        due("31 times that and 4", x.trace(), 996);
    }

    @Says("as they begin:")
    static void terms_numbers_are_left_as_bodies_begin() {
        HalfCuts x = made(KINDS);
        x.tell(1);
        due("BULKY ahead of PLAIN", x.trace(), 2 * 31 + 1);
        HalfCuts y = made(KINDS);
        y.tell(2);
        due("DOUBLE, BULKY, PLAIN, PLAIN", y.trace(), ((3 * 31 + 2) * 31 + 1) * 31 + 1);
    }

    @Says("PLAIN (1): BULK.")
    static void terms_plain_tells_its_bulk() {
        for (int v = 1; v <= 9; v++) {
            HalfCuts x = made("h;p" + v + "l");
            due("BULK " + v, x.tell(0), v);
            due("trace", x.trace(), 1);
        }
    }

    @Says("BULKY (2): what PLAIN's gives, and 100.")
    static void terms_bulky_tells_its_bulk_and_100() {
        for (int v = 1; v <= 9; v++) {
            HalfCuts x = made("h;b" + v + "l");
            due("BULK " + v, x.tell(0), v + 100);
            due("trace", x.trace(), traced(0, 2, 1));
        }
    }

    @Says("DOUBLE (3): what BULKY's gives, and what PLAIN's gives (BULKY's left out).")
    static void terms_double_tells_both() {
        for (int v = 1; v <= 9; v++) {
            HalfCuts x = made("h;d" + v + "l");
            due("BULK " + v, x.tell(0), 2 * v + 100);
            due("trace", x.trace(), traced(0, 3, 2, 1, 1));
        }
    }

    @Says("PROBED by a lent body (4): how many NETS it is of;")
    static void terms_probed_by_the_lent_body() {
        HalfCuts x = made(KINDS);
        due("PLAIN, of two", x.probe(0), 2);
        due("trace", x.trace(), 4);
        due("BULKY, of one", x.probe(1), 1);
        due("trace", x.trace(), traced(0, 4, 4));
        due("of none", x.probe(3), 0);
        due("of six", made("h;p1l;b1l,01,01,01,01,01,01").probe(1), 6);
    }

    @Says("DOUBLE ones have their own (5): 20.")
    static void terms_double_ones_have_their_own_body() {
        HalfCuts x = made(KINDS);
        due("DOUBLE", x.probe(2), 20);
        due("trace", x.trace(), 5);
        due("of no nets", made("h;d1R").probe(0), 20);
    }

    // ---- 24 sheet

    @Says("A SHEET gets a new row: 1.")
    static void p24_a_sheet_gets_a_new_row() {
        for (int k = 0; k < 4; k++) {
            for (int lane = 0; lane < 3; lane++) {
                HalfCuts x = new HalfCuts();
                due("60", x.sheet(k, lane, 60), 1);
                due("put", x.put(k, 2, 5), 1);
                due("3", x.sheet(k, (lane + 1) % 3, 3), 1);
                rowIs(x, k, (lane + 1) % 3, 0, 0, 0);
                due("none", x.sheet(k, lane, 0), 1);
                rowIs(x, k, lane);
                due("60", x.sheet(k, lane, 60), 1);
                due("no fault", x.fault(), 0);
                due("0 again", x.cell(k, 2, lane), 0);
            }
        }
        HalfCuts x = busy();
        x.sheet(0, 2, 5);
        rowIs(x, 1, 2, 0, 1, 9, 12, 1, 20, 1000000);
    }

    @Says("UNKNOWN;")
    static void p24_no_such_sheet() {
        for (int k : FAR) {
            refusedNamingFaults("sheet " + k, Edge::busy, x -> x.sheet(k, 0, 0), UNKNOWN);
        }
    }

    @Says("OUTSIDE: lane,")
    static void p24_no_such_lane() {
        for (int lane : new int[] {LEAST, -1, 3, MOST}) {
            refusedNamingFaults("lane " + lane, Edge::busy, x -> x.sheet(0, lane, 0), OUTSIDE);
            refusedNamingFaults("lane " + lane + ", n -1", Edge::busy, x -> x.sheet(0, lane, -1), OUTSIDE);
        }
    }

    @Says("n above 60;")
    static void p24_n_above_60() {
        for (int n : new int[] {61, 62, MOST}) {
            refusedNamingFaults("n " + n, Edge::busy, x -> x.sheet(0, 0, n), OUTSIDE);
            refusedNamingFaults("n " + n + " for nothing", Edge::busy, x -> x.sheet(2, 0, n), OUTSIDE);
        }
    }

    @Says("SIZE.")
    static void p24_n_below_0_is_SIZE() {
        for (int n : new int[] {-1, -60, LEAST}) {
            faulted("n " + n, Edge::busy, x -> x.sheet(0, 0, n), SIZE);
            faulted("n " + n + " for nothing", Edge::busy, x -> x.sheet(2, 0, n), SIZE);
        }
    }

    // ---- 25 lose

    @Says("A SHEET has nothing: 1;")
    static void p25_a_sheet_loses_its_row() {
        HalfCuts x = new HalfCuts();
        for (int k = 0; k < 4; k++) {
            x.sheet(k, 0, 0);
        }
        for (int k = 0; k < 4; k++) {
            due("lose " + k, x.lose(k), 1);
            due("it has nothing", x.put(k, 0, 0), -10 - NULL);
        }
        HalfCuts y = busy();
        due("lose", y.lose(3), 1);
        due("the circuit stays", y.many(0), 4);
        due("others stay", y.cell(0, 1, 0), -7);
    }

    @Says("0: it had nothing.")
    static void p25_it_had_nothing() {
        refused("SHEET 2", Edge::busy, x -> x.lose(2), 0);
        HalfCuts x = busy();
        due("once", x.lose(0), 1);
        due("twice", x.lose(0), 0);
        x.sheet(0, 0, 0);
        due("an empty row is not nothing", x.lose(0), 1);
    }

    @Says("UNKNOWN.")
    static void p25_no_such_sheet() {
        for (int k : FAR) {
            refused("sheet " + k, Edge::busy, x -> x.lose(k), UNKNOWN);
        }
    }

    // ---- 26 put

    @Says("Cell i of a SHEET becomes v: 1.")
    static void p26_a_cell_becomes_v() {
        HalfCuts x = busy();
        due("the first", x.put(0, 0, -128), 1);
        due("no fault", x.fault(), 0);
        due("the last", x.put(0, 2, 127), 1);
        rowIs(x, 0, 0, -128, -7, 127);
        due("again", x.put(0, 0, 0), 1);
        rowIs(x, 0, 0, 0, -7, 127);
        due("the last that can be", lastOfSixty(), 8);
    }

    private static long lastOfSixty() {
        HalfCuts x = new HalfCuts();
        x.sheet(3, 2, 60);
        x.put(3, 59, 8);
        return x.cell(3, 59, 2);
    }

    @Says("UNKNOWN;")
    static void p26_no_such_sheet() {
        for (int k : FAR) {
            refusedNamingFaults("sheet " + k, Edge::busy, x -> x.put(k, 0, 1), UNKNOWN);
        }
    }

    @Says("NULL;")
    static void p26_nothing_is_NULL() {
        faulted("place 0", Edge::busy, x -> x.put(2, 0, 1), NULL);
        faulted("place -1", Edge::busy, x -> x.put(2, -1, 1), NULL);
        HalfCuts x = busy();
        x.lose(0);
        due("a row that was lost", x.put(0, 0, 1), -10 - NULL);
    }

    @Says("INDEX.")
    static void p26_no_such_place_is_INDEX() {
        for (int i : new int[] {LEAST, -1, 3, 60, MOST}) {
            faulted("place " + i, Edge::busy, x -> x.put(0, i, 1), INDEX);
        }
    }

    // ---- 27 cell

    @Says("Cell i of what a SHEET has, taken as a row of a LANE.")
    static void p27_a_cell_of_a_sheet() {
        HalfCuts x = busy();
        due("the first", x.cell(0, 0, 0), 5);
        due("no fault", x.fault(), 0);
        due("below 0", x.cell(0, 1, 0), -7);
        due("the last", x.cell(0, 2, 0), 9);
        due("of ints", x.cell(1, 6, 2), 1000000);
        changesNothing("nothing is changed", Edge::busy, y -> y.cell(0, 1, 0), -7, 0);
    }

    @Says("LOST: UNKNOWN,")
    static void p27_no_such_sheet() {
        for (int k : FAR) {
            refusedNamingFaults("sheet " + k, Edge::busy, x -> x.cell(k, 0, 0), LOST);
        }
    }

    @Says("OUTSIDE: lane;")
    static void p27_no_such_lane() {
        for (int lane : new int[] {LEAST, -1, 3, MOST}) {
            refusedNamingFaults("lane " + lane, Edge::busy, x -> x.cell(0, 0, lane), LOST);
            refusedNamingFaults("lane " + lane + " of nothing", Edge::busy, x -> x.cell(2, 0, lane), LOST);
        }
    }

    @Says("FAULTS CAST")
    static void p27_another_lane_is_CAST() {
        lostBy("bytes as shorts", Edge::busy, x -> x.cell(0, 0, 1), CAST);
        lostBy("bytes as ints", Edge::busy, x -> x.cell(0, 0, 2), CAST);
        lostBy("ints as bytes", Edge::busy, x -> x.cell(1, 0, 0), CAST);
        lostBy("no such place", Edge::busy, x -> x.cell(0, 3, 1), CAST);
    }

    @Says("(nothing is no CAST), NULL,")
    static void p27_nothing_is_NULL_as_any_lane() {
        for (int lane = 0; lane < 3; lane++) {
            int as = lane;
            lostBy("nothing as " + lane, Edge::busy, x -> x.cell(2, 0, as), NULL);
        }
        HalfCuts x = busy();
        x.lose(0);
        due("a row that was lost", x.cell(0, 0, 1), LOST);
        due("NULL", x.fault(), NULL);
    }

    @Says("INDEX.")
    static void p27_no_such_place_is_INDEX() {
        for (int i : new int[] {LEAST, -1, 3, 60, MOST}) {
            lostBy("place " + i, Edge::busy, x -> x.cell(0, i, 0), INDEX);
        }
    }

    // ---- 28 copy

    private static HalfCuts withRows() {
        HalfCuts x = new HalfCuts();
        lay(x, 0, 1, 1, 2, 3, 4, 5);
        lay(x, 1, 1, 6, 7, 8);
        lay(x, 2, 2, 9, 9, 9);
        due("put", x.put(3, 0, 0), -10 - NULL);
        return x;
    }

    @Says("n cells of a SHEET from i on go to another one (perhaps the same) from j on,")
    static void p28_n_cells_go_from_i_to_j() {
        HalfCuts x = withRows();
        due("2 from 1 to 0", x.copy(0, 1, 1, 0, 2), 2);
        rowIs(x, 1, 1, 2, 3, 8);
        rowIs(x, 0, 1, 1, 2, 3, 4, 5);
        due("all of the other", x.copy(1, 0, 0, 2, 3), 3);
        rowIs(x, 0, 1, 1, 2, 2, 3, 8);
        due("all to itself", x.copy(0, 0, 0, 0, 5), 5);
        rowIs(x, 0, 1, 1, 2, 2, 3, 8);
    }

    @Says("as they were: n.")
    static void p28_cells_go_as_they_were() {
        HalfCuts up = withRows();
        due("up within itself", up.copy(0, 0, 0, 1, 4), 4);
        rowIs(up, 0, 1, 1, 1, 2, 3, 4);
        HalfCuts down = withRows();
        due("down within itself", down.copy(0, 1, 0, 0, 4), 4);
        rowIs(down, 0, 1, 2, 3, 4, 5, 5);
        changesNothing("none", SheetEdges::withRows, x -> x.copy(0, 0, 1, 0, 0), 0, 0);
        changesNothing("none at the ends", SheetEdges::withRows, x -> x.copy(0, 5, 1, 3, 0), 0, 0);
    }

    @Says("UNKNOWN;")
    static void p28_no_such_sheet() {
        for (int k : FAR) {
            refusedNamingFaults("from " + k, Edge::busy, x -> x.copy(k, 0, 0, 0, 0), UNKNOWN);
            refusedNamingFaults("to " + k, Edge::busy, x -> x.copy(0, 0, k, 0, 0), UNKNOWN);
            refusedNamingFaults("from nothing to " + k, Edge::busy, x -> x.copy(2, 0, k, 0, 0), UNKNOWN);
        }
    }

    @Says("FAULTS NULL (the first, the other),")
    static void p28_either_has_nothing_is_NULL() {
        faulted("the first", Edge::busy, x -> x.copy(2, 0, 0, 0, 0), NULL);
        faulted("the other", Edge::busy, x -> x.copy(0, 0, 2, 0, 0), NULL);
        faulted("both", Edge::busy, x -> x.copy(2, 0, 2, 0, 0), NULL);
        faulted("and beyond", Edge::busy, x -> x.copy(0, 9, 2, 0, 0), NULL);
    }

    @Says("CAST (unlike LANES),")
    static void p28_unlike_lanes_are_CAST() {
        for (int n : new int[] {0, 1, -1, 9}) {
            faulted("shorts to ints, n " + n, SheetEdges::withRows, x -> x.copy(0, 0, 2, 0, n), CAST);
            faulted("ints to shorts, n " + n, SheetEdges::withRows, x -> x.copy(2, 0, 0, 0, n), CAST);
        }
    }

    @Says("INDEX: i, j, n below 0 or beyond.")
    static void p28_below_0_or_beyond_is_INDEX() {
        int[][] wrong = {{-1, 0, 0}, {-1, 0, 1}, {6, 0, 0}, {5, 0, 1}, {3, 0, 3}, {LEAST, 0, 0}, {MOST, 0, 1},
            {0, -1, 0}, {0, -1, 1}, {0, 4, 0}, {0, 3, 1}, {0, 1, 3}, {0, LEAST, 0}, {0, MOST, 1},
            {0, 0, -1}, {0, 0, 4}, {0, 0, LEAST}, {0, 0, MOST}, {1, 1, MOST}, {MOST, MOST, MOST}, {LEAST, LEAST, LEAST}};
        for (int[] w : wrong) {
            faulted("i " + w[0] + ", j " + w[1] + ", n " + w[2], SheetEdges::withRows, x -> x.copy(0, w[0], 1, w[1], w[2]),
                INDEX);
        }
        due("3 from 2 to 0", withRows().copy(0, 2, 1, 0, 3), 3);
        due("1 from 4 to 2", withRows().copy(0, 4, 1, 2, 1), 1);
    }

    // ---- 29 tell, 30 probe

    @Says("TELLING of a CELL.")
    static void p29_telling() {
        int[] told = {3, 104, 110, 6};
        for (int c = 0; c < 4; c++) {
            due("CELL " + c, made(KINDS).tell(c), told[c]);
        }
        HalfCuts x = made(KINDS);
        x.bulk(2, 9);
        due("by the BULK that it has now", x.tell(2), 118);
    }

    @Says("UNKNOWN.")
    static void p29_no_such_cell() {
        for (int c : FAR) {
            refused("CELL " + c, Edge::busy, x -> x.tell(c), UNKNOWN);
        }
        refused("without a circuit", Edge::bare, x -> x.tell(0), UNKNOWN);
    }

    @Says("How it is PROBED.")
    static void p30_probing() {
        int[] told = {2, 1, 20, 0};
        for (int c = 0; c < 4; c++) {
            due("CELL " + c, made(KINDS).probe(c), told[c]);
        }
    }

    @Says("UNKNOWN.")
    static void p30_no_such_cell() {
        for (int c : FAR) {
            refused("CELL " + c, Edge::busy, x -> x.probe(c), UNKNOWN);
        }
        refused("without a circuit", Edge::bare, x -> x.probe(0), UNKNOWN);
    }

    // ---- 31 as

    @Says("A CELL, taken as one of a kind: 1.")
    static void p31_as_a_kind_that_it_is() {
        for (int kind = 0; kind < 3; kind++) {
            int as = kind;
            changesNothing("a DOUBLE one as " + kind, Edge::busy, x -> x.as(2, as), 1, 0);
        }
        due("a BULKY one", busy().as(1, 1), 1);
        due("a PLAIN one", busy().as(0, 0), 1);
    }

    @Says("UNKNOWN;")
    static void p31_no_such_cell() {
        for (int c : FAR) {
            refusedNamingFaults("CELL " + c, Edge::busy, x -> x.as(c, 0), UNKNOWN);
        }
        refusedNamingFaults("without a circuit", Edge::bare, x -> x.as(0, 0), UNKNOWN);
    }

    @Says("OUTSIDE;")
    static void p31_no_such_kind() {
        for (int kind : new int[] {LEAST, -1, 3, MOST}) {
            refusedNamingFaults("kind " + kind, Edge::busy, x -> x.as(0, kind), OUTSIDE);
            refusedNamingFaults("kind " + kind, Edge::busy, x -> x.as(2, kind), OUTSIDE);
        }
    }

    @Says("CAST: it is none")
    static void p31_CAST_where_it_is_none() {
        faulted("a PLAIN one as BULKY", Edge::busy, x -> x.as(0, 1), CAST);
        faulted("a PLAIN one as DOUBLE", Edge::busy, x -> x.as(0, 2), CAST);
        faulted("a BULKY one as DOUBLE", Edge::busy, x -> x.as(1, 2), CAST);
    }

    @Says("(each is a PLAIN one, too; a DOUBLE one is a BULKY one).")
    static void p31_each_is_a_plain_one_too() {
        for (int c = 0; c < 4; c++) {
            due("CELL " + c, busy().as(c, 0), 1);
        }
        due("a DOUBLE one as BULKY", busy().as(2, 1), 1);
    }

    // ---- 32 trace

    @Says("TRACE.")
    static void p32_trace() {
        HalfCuts x = made(KINDS);
        due("at first", x.trace(), 0);
        x.tell(0);
        due("behind one", x.trace(), 1);
        due("asked again", x.trace(), 1);
        x.tell(4);
        due("behind a refused one", x.trace(), 1);
        x.as(2, 1);
        x.stow(0, 2);
        due("behind others", x.trace(), 1);
        refused("nothing is changed", Edge::busy, y -> y.trace(), traced(0, 2, 1));
        due("without a circuit", new HalfCuts().trace(), 0);
    }

    // ---- 33 fault

    @Says("The FAULT of the latest call that names one:")
    static void p33_the_latest_call_that_names_one() {
        HalfCuts x = busy();
        due("STORE", x.fault(), STORE);
        due("asked again", x.fault(), STORE);
        x.put(2, 0, 0);
        due("the latest", x.fault(), NULL);
        x.ofCell(9, 0);
        x.ofNet(9, 0);
        x.ofSide(9, 0);
        x.bulk(9, 0);
        x.bound(0);
        x.move(9);
        x.pass(0);
        x.tries(0, 0);
        x.settle(9);
        x.least(0);
        x.apart(0, 0);
        x.closest(0);
        x.reading(0, 0);
        x.back(1);
        x.kinds(0);
        x.bulks(9);
        x.odds(9, 0);
        x.lose(0);
        x.lose(9);
        x.tell(0);
        x.probe(9);
        x.trace();
        x.many(9);
        due("calls that name none do not count", x.fault(), NULL);
    }

    @Says("0: it came to none,")
    static void p33_0_where_it_came_to_none() {
        changesFaultTo0("circuit", x -> x.circuit(3, 2, 0, 30), 4);
        changesFaultTo0("a text that is not taken", x -> x.circuit(3, 2, 0, 1), -101);
        changesFaultTo0("day", x -> x.day(1, 2, 0, 3, 1), NONE);
        changesFaultTo0("a day of no pairs", x -> x.day(0, 0, 3, 0, 0), 2);
        changesFaultTo0("rack", x -> x.rack(0, 0), 0);
        changesFaultTo0("stow", x -> x.stow(0, 2), 1);
        changesFaultTo0("stowed", x -> x.stowed(1), 2);
        changesFaultTo0("stowed, nothing", x -> x.stowed(0), NONE);
        changesFaultTo0("sheet", x -> x.sheet(0, 0, 0), 1);
        changesFaultTo0("put", x -> x.put(0, 0, 0), 1);
        changesFaultTo0("cell", x -> x.cell(0, 0, 0), 5);
        changesFaultTo0("copy", x -> x.copy(0, 0, 0, 1, 2), 2);
        changesFaultTo0("as", x -> x.as(0, 0), 1);
    }

    private static void changesFaultTo0(String what, java.util.function.ToLongFunction<HalfCuts> call, long answer) {
        HalfCuts x = busy();
        due(what + ": ahead", x.fault(), STORE);
        due(what, call.applyAsLong(x), answer);
        due(what + ": fault()", x.fault(), 0);
    }

    @Says("or was refused")
    static void p33_0_where_it_was_refused() {
        changesFaultTo0("circuit", x -> x.circuit(4, 0, 0, 0), UNKNOWN);
        changesFaultTo0("circuit", x -> x.circuit(0, 3, 0, 0), OUTSIDE);
        changesFaultTo0("day", x -> x.day(4, 0, 0, 0, 0), UNKNOWN);
        changesFaultTo0("day", x -> x.day(0, 0, 0, 0, 5), OUTSIDE);
        changesFaultTo0("day, by a pair", x -> x.day(1, 2, 5, 1, 0), OUTSIDE);
        changesFaultTo0("rack", x -> x.rack(3, 0), OUTSIDE);
        changesFaultTo0("stow", x -> x.stow(0, 4), UNKNOWN);
        changesFaultTo0("sheet", x -> x.sheet(4, 0, 0), UNKNOWN);
        changesFaultTo0("sheet", x -> x.sheet(0, 0, 61), OUTSIDE);
        changesFaultTo0("put", x -> x.put(4, 0, 0), UNKNOWN);
        changesFaultTo0("cell", x -> x.cell(4, 0, 0), LOST);
        changesFaultTo0("cell", x -> x.cell(0, 0, 3), LOST);
        changesFaultTo0("copy", x -> x.copy(0, 0, 4, 0, 0), UNKNOWN);
        changesFaultTo0("as", x -> x.as(4, 0), UNKNOWN);
        changesFaultTo0("as", x -> x.as(0, 3), OUTSIDE);
        refusedNamingFaults("rack without a circuit", Edge::bare, x -> x.rack(0, 0), STATE);
        refusedNamingFaults("day without a circuit", Edge::bare, x -> x.day(0, 0, 0, 0, 0), STATE);
    }

    @Says("(0 ahead of any).")
    static void p33_0_ahead_of_any() {
        HalfCuts x = new HalfCuts();
        due("at first", x.fault(), 0);
        x.lose(0);
        x.move(0);
        due("behind calls that name none", x.fault(), 0);
    }

    // ---- 34 many

    @Says("How many: 0 CELLS,")
    static void p34_what_0_is_how_many_cells() {
        due("4", made(FOUR).many(0), 4);
        due("1", made("h;p1l").many(0), 1);
        due("7", made(SEVEN).many(0), 7);
    }

    @Says("1 NETS,")
    static void p34_what_1_is_how_many_nets() {
        due("4", made(FOUR).many(1), 4);
        due("none", made("h;p1l").many(1), 0);
        due("6", made("h;p1l;p1r,01,01,01,01,01,01").many(1), 6);
    }

    @Says("2 that are CUT,")
    static void p34_what_2_is_how_many_are_cut() {
        due("2", made(FOUR).many(2), 2);
        due("none", made("h;p1l;p1l,01").many(2), 0);
        due("6", made("h;p1l;p1r,01,01,01,01,01,01").many(2), 6);
    }

    @Says("3 places of the RACK (0: there is none, too),")
    static void p34_what_3_is_how_many_places() {
        HalfCuts x = made(FOUR);
        due("there is none", x.many(3), 0);
        x.rack(0, 9);
        due("9", x.many(3), 9);
        x.rack(1, 0);
        due("one without places", x.many(3), 0);
        x.rack(2, 4);
        x.rack(2, 10);
        x.rack(2, -1);
        due("refused ones do not count", x.many(3), 4);
        due("taken", read(x, FOUR), 4);
        due("gone", x.many(3), 0);
    }

    @Says("4 READINGS")
    static void p34_what_4_is_how_many_readings() {
        HalfCuts x = made(FOUR);
        for (int k = 0; k < 8; k++) {
            due("how many", x.many(4), k);
            x.reading(0, 0);
        }
        due("8", x.many(4), 8);
        x.reading(0, 0);
        due("a refused one does not count", x.many(4), 8);
        x.back(5);
        due("behind back", x.many(4), 3);
    }

    @Says("(0 all without a CIRCUIT).")
    static void p34_all_are_0_without_a_circuit() {
        for (int what = 0; what <= 4; what++) {
            due("what " + what, bare().many(what), 0);
        }
    }

    @Says("OUTSIDE.")
    static void p34_no_such_what() {
        for (int what : new int[] {LEAST, -1, 5, MOST}) {
            refused("what " + what, Edge::busy, x -> x.many(what), OUTSIDE);
            refused("what " + what + " without a circuit", Edge::bare, x -> x.many(what), OUTSIDE);
        }
    }
}
