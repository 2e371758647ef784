import java.math.BigDecimal;
import java.util.ArrayList;
import java.util.List;
import java.util.function.ToLongFunction;

/** What holds of every call: refusals, faults, how numbers are told. */
final class RefusalEdges extends Edge {
    @Says("An object is used for at most 512 calls after it has been made;")
    static void what_the_512th_call_is_answered_as_any() {
        HalfCuts x = new HalfCuts();
        x.sheet(0, 0, 5);
        int[] codes = {'h', ';', 'p', '3', 'l'};
        for (int i = 0; i < 5; i++) {
            x.put(0, i, codes[i]);
        }
        due("7th call", x.circuit(0, 0, 0, 5), 1);
        int trace = 0;
        for (int call = 8; call < 512; call++) {
            due("call " + call, x.tell(0), 3);
            trace = 31 * trace + 1;
        }
        due("512th call", x.trace(), trace);
    }

    @Says("what later calls answer is free.")
    static void what_later_calls_do_not_throw() {
        HalfCuts x = made(FOUR);
        for (int call = 0; call < 2000; call++) {
            x.settle(call % 4);
            x.reading(call % 5, call);
        }
        due("many", x.many(0), 4);
    }

    // ---- refusals

    @Says("REFUSALS, in the order in which a call's line tells them:")
    static void terms_refusals_come_in_the_order_told() {
        refusedNamingFaults("circuit: UNKNOWN, OUTSIDE", Edge::busy, x -> x.circuit(4, 3, -1, -1), UNKNOWN);
        refusedNamingFaults("circuit: OUTSIDE, CAST", Edge::busy, x -> x.circuit(0, 3, -1, -1), OUTSIDE);
        refused("ofCell: UNKNOWN, OUTSIDE", Edge::busy, x -> x.ofCell(4, 8), UNKNOWN);
        refused("ofNet: UNKNOWN, OUTSIDE", Edge::busy, x -> x.ofNet(4, 3), UNKNOWN);
        refused("ofSide: STATE, OUTSIDE", Edge::bare, x -> x.ofSide(2, 4), STATE);
        refused("bulk: UNKNOWN, OUTSIDE", Edge::busy, x -> x.bulk(4, 0), UNKNOWN);
        refused("bound: STATE, OUTSIDE", Edge::bare, x -> x.bound(0), STATE);
        refused("pass: STATE, OUTSIDE", Edge::bare, x -> x.pass(3), STATE);
        refused("tries: STATE, OUTSIDE", Edge::bare, x -> x.tries(3, 3), STATE);
        refused("settle: STATE, OUTSIDE", Edge::bare, x -> x.settle(3), STATE);
        refusedNamingFaults("day: UNKNOWN, OUTSIDE", Edge::bare, x -> x.day(4, 3, 0, 21, 5), UNKNOWN);
        refusedNamingFaults("day: OUTSIDE, NULL", Edge::bare, x -> x.day(2, 0, 0, 21, 0), OUTSIDE);
        refusedNamingFaults("day: STATE, OUTSIDE by a pair", Edge::bare, x -> x.day(0, 0, 0, 1, 0), STATE);
        refused("least: STATE, OUTSIDE", Edge::bare, x -> x.least(2), STATE);
        refused("closest: STATE, OUTSIDE", Edge::bare, x -> x.closest(3), STATE);
        refusedNamingFaults("rack: STATE, OUTSIDE", Edge::bare, x -> x.rack(3, 10), STATE);
        refusedNamingFaults("rack: OUTSIDE, SIZE", Edge::busy, x -> x.rack(3, -1), OUTSIDE);
        refusedNamingFaults("stow: UNKNOWN, NULL", Edge::bare, x -> x.stow(-1, 0), UNKNOWN);
        refused("reading: UNKNOWN, OUTSIDE", Edge::busy, x -> x.reading(4, -1), UNKNOWN);
        refusedNamingFaults("sheet: UNKNOWN, OUTSIDE", Edge::busy, x -> x.sheet(4, 3, 61), UNKNOWN);
        refusedNamingFaults("sheet: OUTSIDE, SIZE", Edge::busy, x -> x.sheet(0, 3, -1), OUTSIDE);
        refusedNamingFaults("put: UNKNOWN, NULL", Edge::busy, x -> x.put(4, -1, 0), UNKNOWN);
        refusedNamingFaults("copy: UNKNOWN, NULL", Edge::busy, x -> x.copy(2, 0, 4, 0, 0), UNKNOWN);
        refusedNamingFaults("as: UNKNOWN, OUTSIDE", Edge::busy, x -> x.as(4, 3), UNKNOWN);
    }

    @Says("UNKNOWN (there is no such CELL, NET, SHEET, place of a row),")
    static void terms_UNKNOWN_is_of_cells_nets_sheets() {
        due("UNKNOWN", HalfCuts.UNKNOWN, -1);
        due("CELL", made(FOUR).ofCell(4, 0), -1);
        due("NET", made(FOUR).ofNet(4, 0), -1);
        due("SHEET", made(FOUR).lose(4), -1);
    }

    @Says("OUTSIDE (another number is not as told),")
    static void terms_OUTSIDE_is_of_other_numbers() {
        due("OUTSIDE", HalfCuts.OUTSIDE, -2);
        due("what", made(FOUR).many(5), -2);
        due("manner", made(FOUR).pass(3), -2);
    }

    @Says("STATE (as told),")
    static void terms_STATE_as_told() {
        due("STATE", HalfCuts.STATE, -3);
        due("no CIRCUIT", new HalfCuts().pass(0), -3);
        due("FIXED", made(FOUR).move(3), -3);
    }

    @Says("FULL;")
    static void terms_FULL_is_minus_4() {
        due("FULL", HalfCuts.FULL, -4);
        HalfCuts x = made(FOUR);
        for (int k = 0; k < 8; k++) {
            x.reading(0, 0);
        }
        due("a ninth READING", x.reading(0, 0), -4);
    }

    @Says("they change nothing")
    static void terms_refusals_change_nothing() {
        List<ToLongFunction<HalfCuts>> calls = new ArrayList<>();
        for (int far : new int[] {LEAST, -1, 4, 7, 61, MOST}) {
            calls.add(x -> x.ofCell(far, 0));
            calls.add(x -> x.ofNet(far, 0));
            calls.add(x -> x.bulk(far, 1));
            calls.add(x -> x.move(far));
            calls.add(x -> x.apart(far, 0));
            calls.add(x -> x.reading(far, 0));
            calls.add(x -> x.kinds(far));
            calls.add(x -> x.bulks(far));
            calls.add(x -> x.lose(far));
            calls.add(x -> x.tell(far));
            calls.add(x -> x.probe(far));
        }
        for (ToLongFunction<HalfCuts> call : calls) {
            refused("UNKNOWN", Edge::busy, call, UNKNOWN);
        }
        calls.clear();
        for (int far : new int[] {LEAST, -1, 10, 61, 1000, MOST}) {
            calls.add(x -> x.ofCell(0, far));
            calls.add(x -> x.ofNet(0, far));
            calls.add(x -> x.ofSide(0, far));
            calls.add(x -> x.ofSide(far, 0));
            calls.add(x -> x.bulk(0, far));
            calls.add(x -> x.bound(far));
            calls.add(x -> x.pass(far));
            calls.add(x -> x.tries(far, 0));
            calls.add(x -> x.settle(far));
            calls.add(x -> x.least(far));
            calls.add(x -> x.closest(far));
            calls.add(x -> x.back(far));
            calls.add(x -> x.many(far));
        }
        for (ToLongFunction<HalfCuts> call : calls) {
            refused("OUTSIDE", Edge::busy, call, OUTSIDE);
        }
        refused("STATE", Edge::busy, x -> x.move(3), STATE);
    }

    @Says("(but fault(), of a call that names FAULTS).")
    static void terms_a_refusal_makes_fault_0_where_the_call_names_FAULTS() {
        List<ToLongFunction<HalfCuts>> calls = new ArrayList<>();
        calls.add(x -> x.circuit(0, 3, 0, 0));
        calls.add(x -> x.day(0, 3, 0, 0, 0));
        calls.add(x -> x.rack(3, 0));
        calls.add(x -> x.sheet(0, 3, 0));
        calls.add(x -> x.as(0, 3));
        for (ToLongFunction<HalfCuts> call : calls) {
            refusedNamingFaults("OUTSIDE", Edge::busy, call, OUTSIDE);
        }
        refusedNamingFaults("stow", Edge::busy, x -> x.stow(0, 4), UNKNOWN);
        refusedNamingFaults("put", Edge::busy, x -> x.put(4, 0, 0), UNKNOWN);
        refusedNamingFaults("copy", Edge::busy, x -> x.copy(4, 0, 0, 0, 0), UNKNOWN);
        refusedNamingFaults("cell", Edge::busy, x -> x.cell(4, 0, 0), LOST);
        refused("a call that names none", Edge::busy, x -> x.ofCell(4, 0), UNKNOWN);
    }

    // ---- faults

    @Says("FAULTS are the machine's: 1 NULL (there is nothing),")
    static void terms_fault_1_is_NULL() {
        faulted("put to nothing", Edge::busy, x -> x.put(2, 0, 0), 1);
        faulted("no rack", Edge::bare, x -> x.stowed(0), 1);
    }

    @Says("2 CAST (it is of another lane, kind),")
    static void terms_fault_2_is_CAST() {
        faulted("another lane", Edge::busy, x -> x.copy(0, 0, 1, 0, 0), 2);
        faulted("another kind", Edge::busy, x -> x.as(0, 1), 2);
    }

    @Says("3 INDEX (of cells from i on also where i is not 0 .. how many there are, if none of them is taken, too),")
    static void terms_fault_3_is_INDEX_also_where_no_cell_is_taken() {
        faulted("circuit, i -1", Edge::busy, x -> x.circuit(0, 0, -1, 0), 3);
        faulted("circuit, i 4 of 3", Edge::busy, x -> x.circuit(0, 0, 4, 0), 3);
        due("circuit, i 3 of 3", busy().circuit(0, 0, 3, 0), -100);
        due("circuit, i 0", busy().circuit(0, 0, 0, 0), -100);
        faulted("day, i -1", Edge::busy, x -> x.day(0, 0, -1, 0, 0), 3);
        faulted("day, i 4 of 3", Edge::busy, x -> x.day(0, 0, 4, 0, 0), 3);
        due("day, i 3 of 3", busy().day(0, 0, 3, 0, 0), 2);
        faulted("copy, i -1", Edge::busy, x -> x.copy(0, -1, 0, 0, 0), 3);
        faulted("copy, i 4 of 3", Edge::busy, x -> x.copy(0, 4, 0, 0, 0), 3);
        faulted("copy, j -1", Edge::busy, x -> x.copy(0, 0, 0, -1, 0), 3);
        faulted("copy, j 4 of 3", Edge::busy, x -> x.copy(0, 0, 0, 4, 0), 3);
        due("copy, i and j 3 of 3", busy().copy(0, 3, 0, 3, 0), 0);
    }

    @Says("4 SIZE (a length below 0),")
    static void terms_fault_4_is_SIZE() {
        faulted("rack", Edge::busy, x -> x.rack(0, -1), 4);
        faulted("sheet", Edge::busy, x -> x.sheet(0, 0, LEAST), 4);
        faulted("circuit", Edge::busy, x -> x.circuit(0, 0, 0, -1), 4);
    }

    private static HalfCuts busyBehindIndex() {
        HalfCuts x = busy();
        due("stowed", x.stowed(3), -10 - INDEX);
        return x;
    }

    @Says("5 STORE (a row takes none of that kind).")
    static void terms_fault_5_is_STORE() {
        faulted("a PLAIN one to a row of BULKY ones", RefusalEdges::busyBehindIndex, x -> x.stow(0, 0), 5);
    }

    @Says("Of a call the first that is come to, in the order told;")
    static void terms_of_several_faults_the_first_in_the_order_told() {
        faulted("circuit: CAST, SIZE", Edge::busy, x -> x.circuit(0, 1, -1, -1), CAST);
        faulted("circuit: NULL, SIZE", Edge::busy, x -> x.circuit(2, 1, -1, -1), NULL);
        faulted("circuit: SIZE, INDEX", Edge::busy, x -> x.circuit(0, 0, -1, -1), SIZE);
        faulted("day: CAST, INDEX", Edge::busy, x -> x.day(0, 1, -1, 1, 0), CAST);
        faulted("day: NULL, INDEX", Edge::busy, x -> x.day(2, 1, -1, 1, 0), NULL);
        faulted("stow: NULL, INDEX", () -> made(FOUR), x -> x.stow(-1, 0), NULL);
        faulted("stow: INDEX, STORE", Edge::busy, x -> x.stow(3, 0), INDEX);
        faulted("stowed: NULL, INDEX", Edge::bare, x -> x.stowed(-1), NULL);
        faulted("put: NULL, INDEX", Edge::busy, x -> x.put(2, -1, 0), NULL);
        lostBy("cell: CAST, INDEX", Edge::busy, x -> x.cell(0, -1, 1), CAST);
        lostBy("cell: NULL, INDEX", Edge::busy, x -> x.cell(2, -1, 1), NULL);
        faulted("copy: NULL, INDEX", Edge::busy, x -> x.copy(0, -1, 2, 0, 0), NULL);
        faulted("copy: CAST, INDEX", Edge::busy, x -> x.copy(0, -1, 1, 0, 0), CAST);
    }

    @Says("it answers -10 less it")
    static void terms_a_fault_answers_minus_10_less_it() {
        HalfCuts x = busy();
        due("NULL", x.put(2, 0, 0), -11);
        due("CAST", x.as(0, 1), -12);
        due("INDEX", x.put(0, 3, 0), -13);
        due("SIZE", x.rack(0, -1), -14);
        due("STORE", x.stow(0, 0), -15);
    }

    @Says("(LOST, where a long is answered, as for refusals)")
    static void terms_a_long_is_LOST_by_faults_and_refusals() {
        due("LOST", HalfCuts.LOST, Long.MIN_VALUE);
        HalfCuts x = busy();
        due("cell: refused", x.cell(4, 0, 0), LOST);
        due("cell: NULL", x.cell(2, 0, 0), LOST);
        due("cell: CAST", x.cell(0, 0, 1), LOST);
        due("cell: INDEX", x.cell(0, 3, 0), LOST);
        due("odds: refused", x.odds(7, 0), LOST);
    }

    @Says("and changes nothing;")
    static void terms_faults_change_nothing() {
        for (int far : new int[] {LEAST, -1, MOST}) {
            faulted("circuit", Edge::busy, x -> x.circuit(3, 2, far, 30), INDEX);
            faulted("day", Edge::busy, x -> x.day(1, 2, far, 1, 0), INDEX);
            faulted("stow", Edge::busy, x -> x.stow(far, 2), INDEX);
            faulted("stowed", Edge::busy, x -> x.stowed(far), INDEX);
            faulted("put", Edge::busy, x -> x.put(0, far, 1), INDEX);
            lostBy("cell", Edge::busy, x -> x.cell(0, far, 0), INDEX);
            faulted("copy from", Edge::busy, x -> x.copy(0, far, 0, 0, 1), INDEX);
            faulted("copy to", Edge::busy, x -> x.copy(0, 0, 0, far, 1), INDEX);
            faulted("copy many", Edge::busy, x -> x.copy(0, 0, 0, 0, far), INDEX);
        }
        faulted("rack", Edge::busy, x -> x.rack(1, -1), SIZE);
        faulted("sheet", Edge::busy, x -> x.sheet(0, 0, -1), SIZE);
        faulted("as", Edge::busy, x -> x.as(1, 2), CAST);
    }

    @Says("fault() tells it.")
    static void terms_fault_tells_each() {
        HalfCuts x = busy();
        due("STORE", x.fault(), 5);
        x.put(2, 0, 0);
        due("NULL", x.fault(), 1);
        x.as(0, 1);
        due("CAST", x.fault(), 2);
        x.put(0, 3, 0);
        due("INDEX", x.fault(), 3);
        x.rack(0, -1);
        due("SIZE", x.fault(), 4);
    }

    // ---- how numbers are told

    @Says("NONE is -9.")
    static void terms_NONE_is_minus_9() {
        due("NONE", HalfCuts.NONE, -9);
        due("nothing stands there", busy().stowed(0), -9);
    }

    @Says("Sets are told as bits (bit k for number k).")
    static void terms_sets_are_bits() {
        HalfCuts x = made("h;p1r;p1l;p1l;p1l;p1l;p1l;p1r,06,12,13,14,15,16");
        due("CELLS 0 and 6", x.ofSide(1, 0), 0b1000001);
        due("CELLS 1 to 5", x.ofSide(0, 0), 0b0111110);
        due("NETS 1 to 5", x.ofCell(1, 5), 0b111110);
        due("NETS 0 and 5", x.ofCell(6, 5), 0b100001);
        due("CELLS of NET 5", x.ofNet(5, 0), 0b1000010);
        due("BULKS 1 to 9", x.bulks(0), 0b1111111110);
        due("KINDS 0 to 2", x.kinds(0), 0b111);
    }

    @Says("Shares are told as upper and lower number (above 0) in least terms;")
    static void terms_shares_are_in_least_terms() {
        HalfCuts never = made("h;p1L;p1R;p1l;p1l,01");
        due("0 of 4, upper", never.odds(0, 0), 0);
        due("0 of 4, lower", never.odds(0, 1), 1);
        due("4 of 4, upper", never.odds(1, 0), 1);
        due("4 of 4, lower", never.odds(1, 1), 1);
        HalfCuts half = made("h;p1l;p1l;p1l,01");
        due("4 of 8, upper", half.odds(0, 0), 1);
        due("4 of 8, lower", half.odds(0, 1), 2);
        HalfCuts three = made("h;p1l;p1l;p1R;p1l,02,12");
        due("6 of 8, upper", three.odds(1, 0), 3);
        due("6 of 8, lower", three.odds(1, 1), 4);
    }

    @Says("FLOATS as the bits of that of single precision that is nearest to what is told")
    static void terms_floats_are_the_nearest() {
        int shares = 0;
        for (int left = 0; left <= 126; left++) {
            for (int right = left == 0 ? 1 : 0; right + left <= 126; right++) {
                String text = cellsOf(left, 'l') + cellsOf(right, 'r');
                if (text.length() <= 7 * 4) {
                    HalfCuts x = made("h" + text);
                    due(left + " of " + (left + right), x.ofSide(0, 2), nearest(left, left + right));
                    due(right + " of " + (left + right), x.ofSide(1, 2), nearest(right, left + right));
                    shares++;
                }
            }
        }
        due("shares enough", shares > 6000 ? 1 : shares, 1);
    }

    /** As few cells as may be that weigh so much together. */
    private static String cellsOf(int weight, char side) {
        StringBuilder b = new StringBuilder();
        int rest = weight;
        for (; rest > 18; rest -= 18) {
            b.append(";d9").append(side);
        }
        if (rest > 9 && rest % 2 == 1) {
            b.append(";p9").append(side);
            rest -= 9;
        }
        if (rest > 9) {
            b.append(";d").append(rest / 2).append(side);
        } else if (rest > 0) {
            b.append(";p").append(rest).append(side);
        }
        return b.toString();
    }

    /** The float by whose exact distance no neighbour is nearer; the machine's division only gives the first guess. */
    private static int nearest(int upper, int lower) {
        int guess = bits(upper, lower);
        for (int near = Math.max(0, guess - 2); near <= guess + 2; near++) {
            if (distance(near, upper, lower).compareTo(distance(guess, upper, lower)) < 0) {
                guess = near;
            }
        }
        return guess;
    }

    private static BigDecimal distance(int bits, int upper, int lower) {
        return new BigDecimal(Float.intBitsToFloat(bits)).multiply(BigDecimal.valueOf(lower))
            .subtract(BigDecimal.valueOf(upper)).abs();
    }

    /** A share midway between two floats would need a lower number of more than 24 bits: none of 126 or less has one. */
    @Says("(of two as near the even one).")
    static void terms_no_share_is_as_near_to_two_floats() {
        for (int lower = 1; lower <= 126; lower++) {
            for (int upper = 1; upper < lower; upper++) {
                int near = nearest(upper, lower);
                BigDecimal least = distance(near, upper, lower);
                boolean tied = least.equals(distance(near - 1, upper, lower)) || least.equals(distance(near + 1, upper, lower));
                due(upper + " of " + lower + " is as near to two", tied ? 1 : 0, 0);
            }
        }
        due("an even one, exact", made("h;p1l;p1r").ofSide(0, 2), HALF);
    }
}
