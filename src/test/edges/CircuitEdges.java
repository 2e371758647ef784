import java.math.BigDecimal;

/** Promises 1 to 7, and what the Terms say of texts, weights, nets, gains, shares and the bound. */
final class CircuitEdges extends Edge {
    private static final String TWO = "h;p1l;p1l";
    private static final String FIVE = "h;p1l;p1l;p1l;p1l;p1l";
    private static final String SEVEN_CELLS = "h;p1l;p2l;p3l;p4l;p5l;p6l;p7l";

    // ---- 1 a new object

    @Says("No CIRCUIT")
    static void p01_a_new_object_has_no_circuit() {
        due("ofSide", new HalfCuts().ofSide(0, 0), STATE);
        due("bound", new HalfCuts().bound(ONE), STATE);
        due("pass", new HalfCuts().pass(0), STATE);
        due("rack", new HalfCuts().rack(0, 0), STATE);
        due("odds", new HalfCuts().odds(0, 0), LOST);
        made(FOUR);
        due("one made behind another", new HalfCuts().ofSide(0, 0), STATE);
    }

    @Says("no CELLS,")
    static void p01_a_new_object_has_no_cells() {
        due("many", new HalfCuts().many(0), 0);
        due("ofCell", new HalfCuts().ofCell(0, 0), UNKNOWN);
    }

    @Says("NETS),")
    static void p01_a_new_object_has_no_nets() {
        due("many", new HalfCuts().many(1), 0);
        due("cut", new HalfCuts().many(2), 0);
        due("ofNet", new HalfCuts().ofNet(0, 0), UNKNOWN);
    }

    @Says("SHEETS have nothing.")
    static void p01_a_new_object_has_nothing_in_its_sheets() {
        for (int k = 0; k < 4; k++) {
            due("put " + k, new HalfCuts().put(k, 0, 0), -10 - NULL);
            due("lose " + k, new HalfCuts().lose(k), 0);
        }
    }

    // ---- texts

    /** Each code from -200 to 400 behind the beginning of a text: those that go on, and no others. */
    private static void goesOnWith(String begun, String codes) {
        for (int code = -200; code <= 400; code++) {
            HalfCuts x = new HalfCuts();
            int[] row = (begun + "x").chars().toArray();
            row[begun.length()] = code;
            lay(x, 0, 2, row);
            boolean stops = x.circuit(0, 2, 0, row.length) == -100 - begun.length();
            due(begun + " and code " + code + " goes on", stops ? 0 : 1, code >= 0 && codes.indexOf(code) >= 0 ? 1 : 0);
        }
    }

    @Says("A CIRCUIT by a TEXT: h,")
    static void terms_a_text_begins_with_h() {
        goesOnWith("", "h");
        due("an empty one", told(""), -100);
    }

    @Says("then 1 to 7 CELLS,")
    static void terms_a_text_has_1_to_7_cells() {
        due("none", told("h"), -101);
        due("none, a net", told("h,01"), -101);
        due("1", told("h;p1l"), 1);
        due("7", told(SEVEN_CELLS), 7);
        due("8", told(SEVEN_CELLS + ";p8l"), -129);
    }

    @Says("CELLS, numbered from 0 on, each: ; and a letter (its kind),")
    static void terms_each_cell_has_a_sign_and_a_letter_for_its_kind() {
        goesOnWith("h", ";");
        goesOnWith("h;", "pbd");
        HalfCuts x = made("h;d1l;p2l;b3l");
        due("kind of CELL 0", x.ofCell(0, 0), 2);
        due("kind of CELL 1", x.ofCell(1, 0), 0);
        due("kind of CELL 2", x.ofCell(2, 0), 1);
        due("CELL 3", x.ofCell(3, 0), UNKNOWN);
    }

    @Says("a digit 1 .. 9 (BULK),")
    static void terms_each_cell_has_a_digit_1_to_9() {
        goesOnWith("h;p", "123456789");
        for (int v = 1; v <= 9; v++) {
            due("BULK", made("h;b" + v + "l").ofCell(0, 1), v);
        }
    }

    @Says("a letter (its side: l, r;")
    static void terms_each_cell_has_a_letter_for_its_side() {
        goesOnWith("h;p5", "lrLR");
        due("l: side", made("h;p1l").ofCell(0, 3), 0);
        due("l: FIXED", made("h;p1l").ofCell(0, 4), 0);
        due("r: side", made("h;p1r").ofCell(0, 3), 1);
        due("r: FIXED", made("h;p1r").ofCell(0, 4), 0);
    }

    @Says("L, R: it is FIXED there);")
    static void terms_a_capital_letter_fixes_the_cell() {
        due("L: side", made("h;p1L").ofCell(0, 3), 0);
        due("L: FIXED", made("h;p1L").ofCell(0, 4), 1);
        due("L: move", made("h;p1L").move(0), STATE);
        due("R: side", made("h;p1R").ofCell(0, 3), 1);
        due("R: FIXED", made("h;p1R").ofCell(0, 4), 1);
        due("R: move", made("h;p1R").move(0), STATE);
    }

    @Says("then 0 to 6 NETS,")
    static void terms_a_text_has_0_to_6_nets() {
        due("none", made(TWO).many(1), 0);
        due("1", made(TWO + ",01").many(1), 1);
        due("6", made(TWO + ",01,01,01,01,01,01").many(1), 6);
        due("7", told(TWO + ",01,01,01,01,01,01,01"), -127);
        goesOnWith(TWO, ";,");
        goesOnWith(TWO + ",01", ",");
    }

    @Says("NETS, numbered from 0 on, each: a comma")
    static void terms_nets_are_numbered_from_0_on() {
        HalfCuts x = made(FIVE + ",01,234");
        due("NET 0", x.ofNet(0, 0), 0b00011);
        due("NET 1", x.ofNet(1, 0), 0b11100);
        due("NET 2", x.ofNet(2, 0), UNKNOWN);
        due("without a comma", told(TWO + "01"), -109);
        due("a cell behind a net", told(TWO + ",01;p1l"), -112);
    }

    @Says("and 2 to 4 digits:")
    static void terms_a_net_has_2_to_4_cells() {
        due("0", told(FIVE + ","), -122);
        due("1", told(FIVE + ",0"), -123);
        due("2", made(FIVE + ",04").ofNet(0, 0), 0b10001);
        due("3", made(FIVE + ",402").ofNet(0, 0), 0b10101);
        due("4", made(FIVE + ",3210").ofNet(0, 0), 0b01111);
        due("5", told(FIVE + ",01234"), -126);
    }

    @Says("unlike")
    static void terms_the_cells_of_a_net_are_unlike() {
        due("the same twice", told(TWO + ",00"), -111);
        due("the same at the end", told(FIVE + ",0120"), -125);
        due("in two NETS", told(TWO + ",01,10"), 2);
    }

    @Says("CELLS that there are.")
    static void terms_the_cells_of_a_net_are_there() {
        goesOnWith("h;p1l,", "0");
        goesOnWith(TWO + ",", "01");
        goesOnWith(SEVEN_CELLS + ",", "0123456");
        goesOnWith(SEVEN_CELLS + ",6", "012345");
    }

    @Says("FIRST FAULT: the place (from 0 on) of the first code with which no TEXT goes on,")
    static void terms_the_first_fault_is_the_place_of_the_code() {
        due("place 0", told("xyz"), -100);
        due("place 1", told("hh;p1l"), -101);
        due("place 2", told("h;x1l,,"), -102);
        due("place 3", told("h;p0x"), -103);
        due("place 4", told("h;p1xl"), -104);
        due("place 5", told("h;p1lx"), -105);
        due("the first of several", told("h;p1l;q0x,99"), -106);
    }

    @Says("each part looked at alone")
    static void terms_each_part_is_looked_at_alone() {
        due("the comma behind one CELL, with which no NET can be", told("h;p1l,x"), -106);
        due("its one digit", told("h;p1l,0x"), -107);
        due("one CELL, which is of it already", told("h;p1l,00"), -107);
    }

    @Says("(so of a NET with one CELL what comes behind it;")
    static void terms_of_a_net_with_one_cell_the_fault_is_behind_it() {
        due("a comma", told(TWO + ",0,01"), -111);
        due("a ;", told(TWO + ",1;p1l"), -111);
        due("a digit of no CELL", told(TWO + ",02"), -111);
        due("the end", told(TWO + ",0"), -111);
        due("in the second NET", told(TWO + ",01,1,"), -114);
    }

    @Says("a fifth CELL of one,")
    static void terms_the_fault_is_the_fifth_cell_of_a_net() {
        due("a fifth", told(FIVE + ",01234"), -126);
        due("a fifth, and more", told(FIVE + ",01234,01"), -126);
        due("a fifth of the second", told(FIVE + ",0123,43210"), -131);
        due("no fifth", told(FIVE + ",0123,4321"), 5);
    }

    @Says("one that is of it already;")
    static void terms_the_fault_is_the_cell_that_is_of_the_net_already() {
        due("the second digit", told(FIVE + ",11"), -123);
        due("the third digit", told(FIVE + ",121"), -124);
        due("the fourth digit", told(FIVE + ",1233"), -125);
        due("the fifth digit", told(FIVE + ",12344"), -126);
    }

    @Says("the ; of an eighth CELL,")
    static void terms_the_fault_is_the_sign_of_an_eighth_cell() {
        due("the ; alone", told(SEVEN_CELLS + ";"), -129);
        due("all of it", told(SEVEN_CELLS + ";p1l,01"), -129);
        due("a NET in its place", told(SEVEN_CELLS + ",01"), 7);
    }

    @Says("the comma of a seventh NET);")
    static void terms_the_fault_is_the_comma_of_a_seventh_net() {
        String six = SEVEN_CELLS + ",01,01,01,01,01,01";
        due("the comma alone", told(six + ","), -147);
        due("all of it", told(six + ",01"), -147);
        due("no seventh", told(six), 7);
    }

    @Says("how many codes there are, if it just ends too soon.")
    static void terms_the_first_fault_is_how_many_codes_there_are_at_the_end() {
        String text = "h;b3R;d2l,01";
        boolean[] whole = new boolean[text.length() + 1];
        whole[5] = true;
        whole[9] = true;
        whole[12] = true;
        for (int n = 0; n <= text.length(); n++) {
            int answer = told(text.substring(0, n));
            due(text.substring(0, n), answer, whole[n] ? n == 5 ? 1 : 2 : -100 - n);
        }
    }

    @Says("(Codes: h 104, p 112, b 98, d 100, l 108, r 114, L 76, R 82, ; 59, the comma 44, digits 48 .. 57.)")
    static void terms_codes_are_these_numbers() {
        HalfCuts x = new HalfCuts();
        lay(x, 0, 0, 104, 59, 112, 49, 108, 59, 98, 57, 114, 59, 100, 53, 76, 59, 112, 50, 82, 44, 48, 49, 44, 50, 51, 48);
        due("circuit", x.circuit(0, 0, 0, 24), 4);
        int[][] cells = {{0, 1, 0, 0}, {1, 9, 1, 0}, {2, 5, 0, 1}, {0, 2, 1, 1}};
        int[] whats = {0, 1, 3, 4};
        for (int c = 0; c < 4; c++) {
            for (int k = 0; k < 4; k++) {
                due("CELL " + c + ", what " + whats[k], x.ofCell(c, whats[k]), cells[c][k]);
            }
        }
        due("NET 0", x.ofNet(0, 0), 0b0011);
        due("NET 1", x.ofNet(1, 0), 0b1101);
    }

    @Says("Kinds: 0 PLAIN (p); 1 BULKY (b), a PLAIN one; 2 DOUBLE (d), a BULKY one.")
    static void terms_kinds_are_also_those_ahead_of_them() {
        String letters = "pbd";
        for (int kind = 0; kind < 3; kind++) {
            HalfCuts x = made("h;" + letters.charAt(kind) + "1l");
            due("kind", x.ofCell(0, 0), kind);
            for (int as = 0; as < 3; as++) {
                due(letters.charAt(kind) + " as " + as, x.as(0, as), as <= kind ? 1 : -10 - CAST);
            }
        }
    }

    @Says("Sides: 0 left, 1 right.")
    static void terms_side_0_is_left_and_1_is_right() {
        HalfCuts x = made("h;p1l;p1r;p1r");
        due("left", x.ofSide(0, 0), 0b001);
        due("right", x.ofSide(1, 0), 0b110);
    }

    @Says("A TEXT that is taken makes all anew:")
    static void terms_a_text_that_is_taken_makes_all_anew() {
        HalfCuts x = busy();
        x.bulk(0, 9);
        x.move(1);
        due("taken", read(x, "h;b4r;p2l"), 2);
        int[][] cells = {{1, 4, 5, 1, 0, 0, 10, bits(5, 7)}, {0, 2, 2, 0, 0, 0, 10, bits(2, 7)}};
        for (int c = 0; c < 2; c++) {
            for (int what = 0; what <= 7; what++) {
                due("CELL " + c + ", what " + what, x.ofCell(c, what), cells[c][what]);
            }
        }
        due("CELL 2", x.ofCell(2, 0), UNKNOWN);
        due("NETS", x.many(1), 0);
        due("CUT", x.many(2), 0);
        due("NET 0", x.ofNet(0, 0), UNKNOWN);
        allStandAnewBehind("h;p1R;p1R;p1R;p1R;p1R;p1R;p1R", 7);
        allStandAnewBehind("h;p1R;p1R;p1R;p1R;p1R;p1R;p1R,", -130);
        refusedNamingFaults("one that is not taken", CircuitEdges::busyWithTexts, y -> y.circuit(2, 0, 0, 6), -106);
        refusedNamingFaults("one that ends too soon", CircuitEdges::busyWithTexts, y -> y.circuit(2, 0, 0, 4), -104);
    }

    /** What an earlier text told of sides, taken or not, is gone. */
    private static void allStandAnewBehind(String earlier, int answer) {
        HalfCuts x = new HalfCuts();
        due(earlier, read(x, earlier), answer);
        due(SEVEN_CELLS, read(x, SEVEN_CELLS), 7);
        due("right", x.ofSide(1, 0), 0);
        for (int c = 0; c < 7; c++) {
            due("CELL " + c + " is FIXED", x.ofCell(c, 4), 0);
        }
    }

    private static HalfCuts busyWithTexts() {
        HalfCuts x = busy();
        lay(x, 2, 0, 'h', ';', 'b', '9', 'R', ';');
        due("stow", x.stow(0, 0), -10 - STORE);
        return x;
    }

    @Says("the BOUND is 1,")
    static void terms_a_new_circuit_has_the_bound_1() {
        due("at first", made("h;p1l").bound(HALF), ONE);
        HalfCuts x = busy();
        due("taken", read(x, "h;p1l"), 1);
        due("anew", x.bound(HALF), ONE);
    }

    @Says("there is no RACK,")
    static void terms_a_new_circuit_has_no_rack() {
        HalfCuts x = busy();
        due("taken", read(x, FOUR), 4);
        due("places", x.many(3), 0);
        due("stowed", x.stowed(0), -10 - NULL);
        due("stow", x.stow(0, 2), -10 - NULL);
    }

    @Says("no READINGS.")
    static void terms_a_new_circuit_has_no_readings() {
        HalfCuts x = made(FOUR);
        for (int k = 0; k < 8; k++) {
            due("reading", x.reading(0, 7), k);
        }
        due("none is so", x.kinds(0), 0);
        due("taken", read(x, FOUR), 4);
        due("how many", x.many(4), 0);
        due("back", x.back(1), OUTSIDE);
        due("all are so", x.kinds(0), 0b111);
        due("the first again", x.reading(0, 7), 0);
    }

    // ---- weights, nets, gains, shares

    private static void weighs(char kind, int times, int more) {
        for (int v = 1; v <= 9; v++) {
            due(kind + " of " + v, made("h;" + kind + v + "l").ofCell(0, 2), times * v + more);
        }
    }

    @Says("WEIGHT of a CELL: of a PLAIN one BULK;")
    static void terms_a_plain_one_weighs_its_bulk() {
        weighs('p', 1, 0);
    }

    @Says("of a BULKY one 1 more;")
    static void terms_a_bulky_one_weighs_1_more() {
        weighs('b', 1, 1);
    }

    @Says("of a DOUBLE one twice what a PLAIN one's is.")
    static void terms_a_double_one_weighs_twice_its_bulk() {
        weighs('d', 2, 0);
    }

    @Says("A NET is CUT, if it has CELLS on both sides.")
    static void terms_a_net_is_cut_with_cells_on_both_sides() {
        String[] sides = {"llll", "rrrr", "lllr", "rlll", "rrrl", "LRRR", "llrr", "RRRR"};
        int[] cut = {0, 0, 1, 1, 1, 1, 1, 0};
        for (int k = 0; k < sides.length; k++) {
            StringBuilder b = new StringBuilder("h");
            for (char side : sides[k].toCharArray()) {
                b.append(";p1").append(side);
            }
            HalfCuts x = made(b + ",0123");
            due(sides[k], x.ofNet(0, 2), cut[k]);
            due(sides[k], x.many(2), cut[k]);
        }
        due("of two others", made("h;p1l;p1l;p1r,01").many(2), 0);
    }

    @Says("GAIN of a CELL: how many NETS are CUT no more, if it goes to the other side,")
    static void terms_gain_is_of_nets_cut_no_more() {
        due("one", made("h;p1l;p1r,01").ofCell(0, 6), 11);
        due("six", made("h;p1l;p1r,01,01,01,01,01,01").ofCell(0, 6), 16);
        due("still CUT by a third", made("h;p1l;p1r;p1l,012").ofCell(0, 6), 10);
        due("the lone one", made("h;p1l;p1r;p1l,012").ofCell(1, 6), 11);
        due("of a FIXED one, too", made("h;p1L;p1r,01").ofCell(0, 6), 11);
    }

    @Says("less how many are CUT then that are not now.")
    static void terms_gain_is_less_nets_cut_then() {
        due("one", made("h;p1l;p1l,01").ofCell(0, 6), 9);
        due("six", made("h;p1l;p1l,01,01,01,01,01,01").ofCell(1, 6), 4);
        due("both", made("h;p1l;p1l;p1r,01,02").ofCell(0, 6), 10);
        due("two less one", made("h;p1l;p1l;p1r,01,02,012,02").ofCell(0, 6), 11);
        due("of none", made("h;p1l;p1l;p1r,12").ofCell(0, 6), 10);
    }

    @Says("SHARE of a side: WEIGHTS of its CELLS by those of all, as a FLOAT.")
    static void terms_share_of_a_side() {
        HalfCuts x = made("h;p1l;d9r;b9l;p2R");
        due("left", x.ofSide(0, 2), bits(11, 31));
        due("right", x.ofSide(1, 2), bits(20, 31));
        due("nothing there", made("h;p9l;p9l").ofSide(1, 2), 0);
        due("all there", made("h;p9l;p9l").ofSide(0, 2), ONE);
        due("a half", made("h;p9l;p9r").ofSide(0, 2), HALF);
    }

    @Says("The BOUND is a FLOAT, from a half to 1:")
    static void terms_the_bound_is_from_a_half_to_1() {
        HalfCuts x = made(FOUR);
        due("a half", x.bound(HALF), ONE);
        due("just above it", x.bound(HALF + 1), HALF);
        due("just below 1", x.bound(ONE - 1), HALF + 1);
        due("1", x.bound(ONE), ONE - 1);
        refused("below a half", Edge::busy, y -> y.bound(HALF - 1), OUTSIDE);
        refused("above 1", Edge::busy, y -> y.bound(ONE + 1), OUTSIDE);
    }

    @Says("a side is WITHIN, if its SHARE (as a FLOAT) is no more than that.")
    static void terms_within_is_by_the_float_of_the_share() {
        int[] rounded = new int[2];
        for (int lower = 2; lower <= 9; lower++) {
            for (int upper = lower / 2 + 1; upper < lower; upper++) {
                HalfCuts x = made("h;p" + upper + "l;p" + (lower - upper) + "r");
                int share = bits(upper, lower);
                due("bound", x.bound(share), ONE);
                due("at the share", x.ofSide(0, 3), 1);
                due("bound", x.bound(share - 1), share);
                due("just below the share", x.ofSide(0, 3), 0);
                due("bound", x.bound(share + 1), share - 1);
                due("just above the share", x.ofSide(0, 3), 1);
                BigDecimal exact = new BigDecimal(Float.intBitsToFloat(share)).multiply(BigDecimal.valueOf(lower));
                rounded[0] += exact.compareTo(BigDecimal.valueOf(upper)) < 0 ? 1 : 0;
                rounded[1] += exact.compareTo(BigDecimal.valueOf(upper)) > 0 ? 1 : 0;
            }
        }
        due("shares above and below their floats were among them", Math.min(1, rounded[0]) + Math.min(1, rounded[1]), 2);
    }

    // ---- 2 circuit

    @Says("A CIRCUIT by a TEXT of n cells of a SHEET from i on, taken as a row of a LANE: how many CELLS;")
    static void p02_a_circuit_is_n_cells_from_i_on_of_any_lane() {
        for (int k = 0; k < 4; k++) {
            for (int lane = 0; lane < 3; lane++) {
                HalfCuts x = new HalfCuts();
                lay(x, k, lane, 'x', 'h', ';', 'p', '7', 'r', ';', 'd', '2', 'l', ',', '0', '1', ';');
                due("from 1 on, 12", x.circuit(k, lane, 1, 12), 2);
                due("BULK", x.ofCell(0, 1), 7);
                due("NETS", x.many(1), 1);
                due("from 1 on, 5", x.circuit(k, lane, 1, 5), 1);
                due("from 0 on", x.circuit(k, lane, 0, 12), -100);
                due("one more", x.circuit(k, lane, 1, 13), -112);
                due("the sheet stays", x.cell(k, 13, lane), ';');
            }
        }
        HalfCuts x = new HalfCuts();
        lay(x, 0, 0, 104 + 256, 59 - 256, 112, 49, 108);
        due("codes cut to bytes", x.circuit(0, 0, 0, 5), 1);
        lay(x, 0, 1, 104 + 256, 59, 112, 49, 108);
        due("a short that is not h", x.circuit(0, 1, 0, 5), -100);
    }

    @Says("-100 less the FIRST FAULT.")
    static void p02_minus_100_less_the_first_fault() {
        HalfCuts x = new HalfCuts();
        lay(x, 0, 0, 'x', 'x', 'h', ';', 'p', '7', 'r', 'x');
        due("places are counted from i on", x.circuit(0, 0, 2, 6), -105);
        due("at place 0", x.circuit(0, 0, 1, 6), -100);
        due("the last place that can be", told(SEVEN_CELLS + ",0123,0123,0123,0123,0123,0123,"), -159);
        due("the longest text", told(SEVEN_CELLS + ",0123,0123,0123,0123,0123,0123"), 7);
    }

    @Says("UNKNOWN;")
    static void p02_no_such_sheet() {
        for (int k : new int[] {LEAST, -1, 4, MOST}) {
            refusedNamingFaults("sheet " + k, Edge::busy, x -> x.circuit(k, 0, 0, 0), UNKNOWN);
        }
    }

    @Says("OUTSIDE: lane;")
    static void p02_no_such_lane() {
        for (int lane : new int[] {LEAST, -1, 3, MOST}) {
            refusedNamingFaults("lane " + lane, Edge::busy, x -> x.circuit(0, lane, 0, 0), OUTSIDE);
            refusedNamingFaults("lane " + lane + " of nothing", Edge::busy, x -> x.circuit(2, lane, 0, 0), OUTSIDE);
        }
    }

    @Says("FAULTS CAST")
    static void p02_another_lane_is_CAST() {
        faulted("bytes as shorts", Edge::busy, x -> x.circuit(0, 1, 0, 0), CAST);
        faulted("bytes as ints", Edge::busy, x -> x.circuit(0, 2, 0, 0), CAST);
        faulted("ints as bytes", Edge::busy, x -> x.circuit(3, 0, 0, 30), CAST);
    }

    @Says("(nothing is no CAST), NULL,")
    static void p02_nothing_is_NULL_as_any_lane() {
        for (int lane = 0; lane < 3; lane++) {
            int as = lane;
            faulted("nothing as " + lane, Edge::busy, x -> x.circuit(2, as, 0, 0), NULL);
        }
    }

    @Says("SIZE: n is below 0,")
    static void p02_n_below_0_is_SIZE() {
        faulted("-1", Edge::busy, x -> x.circuit(0, 0, 0, -1), SIZE);
        faulted("least", Edge::busy, x -> x.circuit(0, 0, 0, LEAST), SIZE);
        faulted("-1, i beyond", Edge::busy, x -> x.circuit(0, 0, 4, -1), SIZE);
    }

    @Says("INDEX: not all cells are there;")
    static void p02_not_all_cells_there_is_INDEX() {
        faulted("4 of 3", Edge::busy, x -> x.circuit(0, 0, 0, 4), INDEX);
        faulted("3 from 1 on", Edge::busy, x -> x.circuit(0, 0, 1, 3), INDEX);
        faulted("1 from 3 on", Edge::busy, x -> x.circuit(0, 0, 3, 1), INDEX);
        faulted("i -1", Edge::busy, x -> x.circuit(0, 0, -1, 2), INDEX);
        faulted("most from 1 on", Edge::busy, x -> x.circuit(0, 0, 1, MOST), INDEX);
        faulted("most from most on", Edge::busy, x -> x.circuit(0, 0, MOST, MOST), INDEX);
        faulted("a good text, and one more", Edge::busy, x -> x.circuit(3, 2, 0, 31), INDEX);
        due("all three", busy().circuit(0, 0, 0, 3), -100);
    }

    @Says("-100 less it.")
    static void p02_a_first_fault_is_no_fault() {
        refusedNamingFaults("no h", Edge::busy, x -> x.circuit(0, 0, 0, 3), -100);
        refusedNamingFaults("ends too soon", Edge::busy, x -> x.circuit(3, 2, 0, 3), -103);
        refusedNamingFaults("n is 0", Edge::busy, x -> x.circuit(3, 2, 30, 0), -100);
    }

    // ---- 3 ofCell

    private static void ofCells(int what, int... answers) {
        HalfCuts x = made(FOUR);
        for (int c = 0; c < answers.length; c++) {
            due("CELL " + c + ", what " + what, x.ofCell(c, what), answers[c]);
        }
    }

    @Says("Of a CELL: 0 kind,")
    static void p03_what_0_is_the_kind() {
        ofCells(0, 0, 1, 2, 0);
    }

    @Says("1 BULK,")
    static void p03_what_1_is_the_bulk() {
        ofCells(1, 3, 2, 4, 5);
    }

    @Says("2 WEIGHT,")
    static void p03_what_2_is_the_weight() {
        ofCells(2, 3, 3, 8, 5);
    }

    @Says("3 side,")
    static void p03_what_3_is_the_side() {
        ofCells(3, 0, 0, 1, 1);
    }

    @Says("4 whether it is FIXED (1, 0),")
    static void p03_what_4_is_whether_it_is_fixed() {
        ofCells(4, 0, 0, 0, 1);
    }

    @Says("5 NETS that it is of, as a set,")
    static void p03_what_5_is_the_set_of_its_nets() {
        ofCells(5, 0b1011, 0b0011, 0b0110, 0b1100);
        due("of none", made("h;p1l").ofCell(0, 5), 0);
        due("of all six", made(TWO + ",01,01,01,01,01,01").ofCell(1, 5), 0b111111);
    }

    @Says("6 GAIN, and 10,")
    static void p03_what_6_is_the_gain_and_10() {
        ofCells(6, 10, 9, 10, 10);
        due("6 and 10", made("h;p1l;p1R,01,01,01,01,01,01").ofCell(0, 6), 16);
        due("-6 and 10", made("h;p1r;p1R,01,01,01,01,01,01").ofCell(0, 6), 4);
    }

    @Says("7 WEIGHT by those of all, as a FLOAT.")
    static void p03_what_7_is_its_share_of_the_weight() {
        ofCells(7, bits(3, 19), bits(3, 19), bits(8, 19), bits(5, 19));
        due("alone", made("h;d7r").ofCell(0, 7), ONE);
        due("1 of 109", made("h;p1l;d9l;d9l;d9l;d9l;d9l;d9l").ofCell(0, 7), bits(1, 109));
    }

    @Says("UNKNOWN;")
    static void p03_no_such_cell() {
        for (int c : new int[] {LEAST, -1, 4, 7, MOST}) {
            refused("CELL " + c, Edge::busy, x -> x.ofCell(c, 0), UNKNOWN);
        }
        refused("without a circuit", Edge::bare, x -> x.ofCell(0, 0), UNKNOWN);
    }

    @Says("OUTSIDE.")
    static void p03_no_such_what() {
        for (int what : new int[] {LEAST, -1, 8, MOST}) {
            refused("what " + what, Edge::busy, x -> x.ofCell(3, what), OUTSIDE);
        }
    }

    // ---- 4 ofNet

    private static void ofNets(int what, int... answers) {
        HalfCuts x = made(FOUR);
        for (int n = 0; n < answers.length; n++) {
            due("NET " + n + ", what " + what, x.ofNet(n, what), answers[n]);
        }
    }

    @Says("Of a NET: 0 its CELLS, as a set,")
    static void p04_what_0_is_the_set_of_its_cells() {
        ofNets(0, 0b0011, 0b0111, 0b1100, 0b1001);
    }

    @Says("1 those on the right, as a set,")
    static void p04_what_1_is_the_set_of_those_on_the_right() {
        ofNets(1, 0, 0b0100, 0b1100, 0b1000);
    }

    @Says("2 whether it is CUT (1, 0).")
    static void p04_what_2_is_whether_it_is_cut() {
        ofNets(2, 0, 1, 0, 1);
    }

    @Says("UNKNOWN;")
    static void p04_no_such_net() {
        for (int n : new int[] {LEAST, -1, 4, 6, MOST}) {
            refused("NET " + n, Edge::busy, x -> x.ofNet(n, 0), UNKNOWN);
        }
        due("the sixth", made(TWO + ",01,01,01,01,01,01").ofNet(5, 0), 0b11);
        due("a seventh", made(TWO + ",01,01,01,01,01,01").ofNet(6, 0), UNKNOWN);
        refused("without a circuit", Edge::bare, x -> x.ofNet(0, 0), UNKNOWN);
    }

    @Says("OUTSIDE.")
    static void p04_no_such_what() {
        for (int what : new int[] {LEAST, -1, 3, MOST}) {
            refused("what " + what, Edge::busy, x -> x.ofNet(3, what), OUTSIDE);
        }
    }

    // ---- 5 ofSide

    private static void ofSides(int what, int left, int right) {
        HalfCuts x = made(FOUR);
        due("left, what " + what, x.ofSide(0, what), left);
        due("right, what " + what, x.ofSide(1, what), right);
    }

    @Says("Of a side (0, 1): 0 its CELLS, as a set,")
    static void p05_what_0_is_the_set_of_its_cells() {
        ofSides(0, 0b0011, 0b1100);
        due("none", made("h;p1r;p1R").ofSide(0, 0), 0);
        due("all seven", made(SEVEN_CELLS).ofSide(0, 0), 0b1111111);
    }

    @Says("1 WEIGHTS together,")
    static void p05_what_1_is_the_weights_together() {
        ofSides(1, 6, 13);
        due("none", made("h;p1r;p1R").ofSide(0, 1), 0);
        due("the most", made("h;d9l;d9l;d9l;d9l;d9l;d9l;d9l").ofSide(0, 1), 126);
    }

    @Says("2 SHARE,")
    static void p05_what_2_is_the_share() {
        ofSides(2, bits(6, 19), bits(13, 19));
    }

    @Says("3 whether it is WITHIN (1, 0).")
    static void p05_what_3_is_whether_it_is_within() {
        ofSides(3, 1, 1);
        HalfCuts x = madeWithin(FOUR, HALF);
        due("left", x.ofSide(0, 3), 1);
        due("right", x.ofSide(1, 3), 0);
        HalfCuts all = madeWithin("h;p1l", ONE - 1);
        due("all of it", all.ofSide(0, 3), 0);
        due("nothing of it", all.ofSide(1, 3), 1);
    }

    @Says("STATE: there is no CIRCUIT;")
    static void p05_no_circuit() {
        refused("side 0", Edge::bare, x -> x.ofSide(0, 0), STATE);
        refused("side 2", Edge::bare, x -> x.ofSide(2, 0), STATE);
        refused("what 4", Edge::bare, x -> x.ofSide(0, 4), STATE);
    }

    @Says("OUTSIDE.")
    static void p05_no_such_side_or_what() {
        for (int far : new int[] {LEAST, -1, 2, MOST}) {
            refused("side " + far, Edge::busy, x -> x.ofSide(far, 0), OUTSIDE);
        }
        for (int far : new int[] {LEAST, -1, 4, MOST}) {
            refused("what " + far, Edge::busy, x -> x.ofSide(1, far), OUTSIDE);
        }
    }

    // ---- 6 bulk

    @Says("BULK of a CELL becomes v (1 .. 9): what it was.")
    static void p06_bulk_becomes_1_to_9() {
        HalfCuts x = made(FOUR);
        due("1", x.bulk(2, 1), 4);
        due("weight", x.ofCell(2, 2), 2);
        due("9", x.bulk(2, 9), 1);
        due("weight", x.ofCell(2, 2), 18);
        due("the same", x.bulk(2, 9), 9);
        due("of a FIXED one", x.bulk(3, 7), 5);
        due("of a BULKY one", x.bulk(1, 9), 2);
        due("weight of a BULKY one", x.ofCell(1, 2), 10);
        due("share", x.ofSide(1, 2), bits(25, 38));
        due("the kind stays", x.ofCell(1, 0), 1);
        due("others stay", x.ofCell(0, 1), 3);
    }

    @Says("UNKNOWN;")
    static void p06_no_such_cell() {
        for (int c : new int[] {LEAST, -1, 4, 7, MOST}) {
            refused("CELL " + c, Edge::busy, x -> x.bulk(c, 1), UNKNOWN);
        }
        refused("without a circuit", Edge::bare, x -> x.bulk(0, 1), UNKNOWN);
    }

    @Says("OUTSIDE.")
    static void p06_no_such_bulk() {
        for (int v : new int[] {LEAST, -1, 0, 10, MOST}) {
            refused("BULK " + v, Edge::busy, x -> x.bulk(0, v), OUTSIDE);
        }
    }

    // ---- 7 bound

    @Says("The BOUND becomes the FLOAT with bits f: the bits of what it was.")
    static void p07_bound_tells_what_it_was() {
        HalfCuts x = made(FOUR);
        due("at first", x.bound(bits(13, 19)), ONE);
        due("right", x.ofSide(1, 3), 1);
        due("then", x.bound(bits(13, 19) - 1), bits(13, 19));
        due("right", x.ofSide(1, 3), 0);
        due("then", x.bound(ONE), bits(13, 19) - 1);
        due("the same", x.bound(ONE), ONE);
    }

    @Says("STATE: there is no CIRCUIT;")
    static void p07_no_circuit() {
        refused("1", Edge::bare, x -> x.bound(ONE), STATE);
        refused("none", Edge::bare, x -> x.bound(-1), STATE);
    }

    @Says("OUTSIDE: it is less than a half (bits 1056964608),")
    static void p07_less_than_a_half() {
        due("a half", made(FOUR).bound(1056964608), ONE);
        for (int f : new int[] {1056964607, 1, 0, LEAST, 0x80000001, 0xbf800000, 0xbf000000, 0xff800000}) {
            refused("bits " + f, Edge::busy, x -> x.bound(f), OUTSIDE);
        }
    }

    @Says("more than 1 (bits 1065353216),")
    static void p07_more_than_1() {
        due("1", madeWithin(FOUR, HALF).bound(1065353216), HALF);
        for (int f : new int[] {1065353217, 0x40000000, 0x7f7fffff, 0x7f800000}) {
            refused("bits " + f, Edge::busy, x -> x.bound(f), OUTSIDE);
        }
    }

    @Says("none.")
    static void p07_no_number() {
        for (int f : new int[] {0x7f800001, 0x7fc00000, MOST, 0xff800001, 0xffc00000, -1}) {
            refused("bits " + f, Edge::busy, x -> x.bound(f), OUTSIDE);
        }
    }
}
