/** Promises 8 to 12, and what the Terms say of passes and days. */
final class MovesEdges extends Edge {
    /** Three free cells that gain 1 each by going to the fixed one; weights 1, 5, 8 and 10. */
    private static final String TIED = "h;p1l;p5l;d4l;b9R,03,13,23";
    /** Cell 1 gains, cell 0 does not; cell 2 is fixed. */
    private static final String ONE_GAINS = "h;p1l;p1l;p1R,12";

    private static void order(String text, int manner, int... cells) {
        HalfCuts x = made(text);
        due(text + ": moves", x.tries(manner, 0), cells.length);
        for (int k = 0; k < 7; k++) {
            due(text + ": move " + k, x.tries(manner, 10 + k), k < cells.length ? cells[k] : NONE);
        }
    }

    // ---- passes

    @Says("A PASS by a MANNER: no CELL is LOCKED at first;")
    static void terms_no_cell_is_locked_as_a_pass_begins() {
        HalfCuts x = made("h;p4l;p4r,01");
        due("moves", x.tries(0, 0), 2);
        due("a pass", x.pass(0), 1);
        due("moves of the next one", x.tries(0, 0), 2);
        due("a pass", x.pass(0), 0);
        due("moves of the one behind it", x.tries(0, 0), 2);
    }

    @Says("as long as there is a CELL that is not LOCKED,")
    static void terms_each_cell_is_moved_once() {
        order("h;p4l;p4r,01", 0, 0, 1);
        order("h;p1l", 0, 0);
        due("all seven", made(SEVEN).tries(0, 0), 7);
        int set = 0;
        HalfCuts x = made(SEVEN);
        for (int k = 0; k < 7; k++) {
            set |= 1 << x.tries(1, 10 + k);
        }
        due("all seven, each once", set, 0b1111111);
    }

    @Says("LOCKED, not FIXED,")
    static void terms_no_fixed_cell_is_moved() {
        order("h;p1L;p1l;p1R,02,02", 0, 1);
        order("h;p1L;p1R,01", 0);
        due("none stays", made("h;p1L;p1R,01").pass(0), 0);
    }

    @Says("and by whose move the side to which it goes is WITHIN then,")
    static void terms_the_side_to_which_it_goes_is_within_then() {
        HalfCuts both = madeWithin("h;p4l;p4r,01", ONE - 1);
        due("all on one side", both.tries(0, 0), 0);
        due("bound", both.bound(ONE), ONE - 1);
        due("all on one side, by a bound of 1", both.tries(0, 0), 2);
        HalfCuts edge = madeWithin("h;p5l;p1l;p7R", bits(12, 13));
        due("at the bound", edge.tries(0, 10), 0);
        due("bound", edge.bound(bits(12, 13) - 1), bits(12, 13));
        due("just beyond the bound", edge.tries(0, 10), 1);
        HalfCuts leaves = madeWithin("h;p1l;p9r;p9r;p9r", HALF);
        due("the side that it leaves is not asked", leaves.tries(0, 0), 1);
        due("the side that it leaves is not asked", leaves.tries(0, 10), 1);
        HalfCuts ahead = madeWithin("h;p8l;p1r;p1R", HALF);
        due("the side to which it goes is beyond already", ahead.tries(0, 0), 0);
        HalfCuts later = madeWithin("h;p4l;p2l;p2l;p4R;p2r", bits(5, 7));
        int[] order = {0, 4, 1, NONE};
        for (int k = 0; k < order.length; k++) {
            due("by a move another may go that could not ahead of it", later.tries(0, 10 + k), order[k]);
        }
    }

    @Says("that of the best is moved, and LOCKED.")
    static void terms_the_best_is_moved_though_it_loses() {
        order("h;p1r;p1R,01", 0, 0);
        order("h;p1l;p1l;p1R,01,01,02", 0, 0, 1);
        due("through a loss to a gain", made("h;p1l;p1l;p1R,01,01,02").pass(0), 2);
    }

    @Says("The best: by MANNER 0: of the greatest GAIN;")
    static void terms_manner_0_is_by_gain() {
        order(ONE_GAINS, 0, 1, 0);
        order("h;p1l;p9l;p9R,02,02,12", 0, 0, 1);
        order("h;p9l;p1l;p9R,02,02,12", 0, 0, 1);
        order("h;p1r;p1r;p1R,02,02,12", 0, 1, 0);
        order(TIED, 0, 0, 1, 2);
    }

    @Says("1: of the greatest GAIN, of several the heaviest one;")
    static void terms_manner_1_is_by_gain_then_by_weight() {
        order(TIED, 1, 2, 1, 0);
        order("h;p9l;d5l;b7l;p1R,03,13,23", 1, 1, 0, 2);
        order("h;p1l;p9l;p9R,02,02,12", 1, 0, 1);
        order("h;p1r;p9r;p9R,02,12", 1, 1, 0);
        order("h;p1l;p9l", 1, 1, 0);
    }

    @Says("2: of the greatest GAIN by WEIGHT (GAIN divided by WEIGHT);")
    static void terms_manner_2_is_by_gain_divided_by_weight() {
        order("h;p9l;p2l;p1R,02,02,12", 2, 1, 0);
        order("h;p3l;p2l;p1R,02,02,12", 2, 0, 1);
        order("h;p2r;p9r;p1R,02,12", 2, 1, 0);
        order("h;p9r;p2r;p1R,02,12", 2, 0, 1);
        order("h;p9r;p1r;p9R,02", 2, 1, 0);
        order("h;p1l;p9l;p1R,12", 2, 1, 0);
        order("h;b3l;d1l;p9R,02,12", 2, 1, 0);
        order("h;p9l;p8l;p1R,02,12", 2, 1, 0);
        order("h;p9l;d8l;p1R,02,12,12", 2, 1, 0);
        order("h;d8l;p5l;p1R,02,02,02,12", 2, 1, 0);
    }

    @Says("of several always the least number.")
    static void terms_of_several_the_least_number() {
        for (int manner = 0; manner < 3; manner++) {
            order("h;p2l;b1l;d1l;b3R,03,13,23", manner, 0, 1, 2);
            order("h;p2r;b1r;d1l", manner, 0, 1, 2);
        }
        order("h;p4l;p2l;p1R,02,02,12", 2, 0, 1);
        order("h;p2l;p4l;p1R,12,12,02", 2, 0, 1);
        order("h;p9l;d9l;p1R,02,12,12", 2, 0, 1);
        order("h;d9l;p9l;p1R,02,02,12", 2, 0, 1);
        order("h;d9l;p6l;p1R,02,02,02,12", 2, 0, 1);
        order("h;p9l;p1l;p5l", 2, 0, 1, 2);
    }

    @Says("Then all moves behind the first time when the fewest NETS were CUT")
    static void terms_the_first_time_of_the_fewest_stays() {
        HalfCuts twice = made("h;p1l;p1r;p1l,01");
        due("moves", twice.tries(0, 0), 3);
        due("the second is as good", twice.tries(0, 11), 2);
        due("the first stays", twice.pass(0), 1);
        due("right", twice.ofSide(1, 0), 0b011);
        due("at the very end", made(TIED).pass(0), 3);
    }

    @Says("(ahead of all moves, too)")
    static void terms_ahead_of_all_moves_counts_as_a_time() {
        HalfCuts none = made("h;p1r;p1R,01");
        due("none gains", none.pass(0), 0);
        due("right", none.ofSide(1, 0), 0b11);
        HalfCuts even = made("h;p1l;p1R;p1L,01,02");
        due("a move that leaves as many", even.tries(0, 0), 1);
        due("ahead of it was the first time", even.pass(0), 0);
        due("right", even.ofSide(1, 0), 0b010);
    }

    @Says("are taken back.")
    static void terms_moves_are_taken_back() {
        HalfCuts x = made("h;p4l;p4r,01");
        due("one of two stays", x.pass(0), 1);
        due("right", x.ofSide(1, 0), 0b11);
        due("CUT", x.many(2), 0);
        HalfCuts all = made("h;p1l;b2l;d3r;p4l");
        due("none of four stays", all.pass(1), 0);
        due("right", all.ofSide(1, 0), 0b0100);
    }

    // ---- days

    private static HalfCuts withDay(String text, int... pairs) {
        HalfCuts x = made(text);
        lay(x, 0, 2, pairs);
        return x;
    }

    private static int dayOf(String text, int what, int... pairs) {
        return withDay(text, pairs).day(0, 2, 0, pairs.length / 2, what);
    }

    @Says("A DAY told: a row of pairs, one behind another,")
    static void terms_a_day_is_played_one_pair_behind_another() {
        due("right behind two moves", dayOf(FOUR, 2, 0, 0, 0, 1), 0b1111);
        due("the same one twice", dayOf(FOUR, 2, 0, 0, 0, 0), 0b1100);
        due("the latest BULK counts", dayOf(FOUR, 3, 9, 10, 4, 10), 7);
        due("a BULK, then a PASS by it", dayOf("h;p1l;p2l;p9R,02,12", 10, 9, 10, 1, 20), 9);
        HalfCuts x = madeWithin("h;p4l;p4l;p1R,02", HALF);
        lay(x, 0, 2, 0, 20, 2, 10, 0, 20);
        due("a PASS ahead of a BULK", x.day(0, 2, 0, 1, 2), 0b100);
        due("a PASS behind a BULK", x.day(0, 2, 2, 2, 2), 0b101);
    }

    @Says("from how all is now")
    static void terms_a_day_begins_from_how_all_is_now() {
        HalfCuts x = withDay(FOUR, 0, 0);
        due("right", x.day(0, 2, 0, 1, 2), 0b1101);
        x.move(1);
        due("right behind a move", x.day(0, 2, 0, 1, 2), 0b1111);
        x.bulk(0, 9);
        due("left behind a BULK", x.day(0, 2, 0, 0, 3), 9);
        due("right of an empty day", x.day(0, 2, 0, 0, 2), 0b1110);
    }

    private static HalfCuts busyWithDay() {
        HalfCuts x = busy();
        lay(x, 2, 1, 0, 0, 9, 11, 0, 20, 1, 12, 1, 20, 0, 3);
        due("stow", x.stow(0, 0), -10 - STORE);
        return x;
    }

    @Says("(nothing is changed):")
    static void terms_a_day_changes_nothing() {
        changesNothing("five pairs", MovesEdges::busyWithDay, x -> x.day(2, 1, 0, 5, 1), NONE, 0);
        changesNothing("with a wrong one", MovesEdges::busyWithDay, x -> x.day(2, 1, 0, 6, 0), -105, 0);
    }

    @Says("0 and 0 .. 6: that CELL goes to the other side")
    static void terms_a_day_moves_cells_0_to_6() {
        for (int c = 0; c < 7; c++) {
            due("CELL " + c, dayOf(SEVEN, 2, 0, c), 0b0101010 ^ 1 << c);
        }
    }

    @Says("other side (whatever the BOUND);")
    static void terms_a_day_moves_cells_whatever_the_bound() {
        HalfCuts x = madeWithin("h;p4l;p4r,01", HALF);
        lay(x, 0, 2, 0, 0);
        due("right", x.day(0, 2, 0, 1, 2), 0b11);
        due("no wrong", x.day(0, 2, 0, 1, 1), NONE);
    }

    @Says("a BULK (1 .. 9) and 10 .. 16: that of the CELL that is 10 less;")
    static void terms_a_day_tells_bulks_of_cells_0_to_6() {
        String text = "h;p5l;p5l;p5l;p5l;p5l;p5l;p5l";
        for (int c = 0; c < 7; c++) {
            due("1 of CELL " + c, dayOf(text, 3, 1, 10 + c), 31);
            due("9 of CELL " + c, dayOf(text, 3, 9, 10 + c, 0, c), 30);
            due("9 of CELL " + c, dayOf(text, 3, 9, 10 + c), 39);
        }
        due("of a DOUBLE one", dayOf("h;d1l;b1l", 3, 9, 10), 20);
        due("of a BULKY one", dayOf("h;d1l;b1l", 3, 9, 11), 12);
    }

    @Says("a MANNER (0 .. 2) and 20: a PASS.")
    static void terms_a_day_has_passes_by_manners_0_to_2() {
        // By a bound of a half only one of the three can go; each manner chooses its own.
        String text = "h;p5l;p6l;p2l;p8L;p8R,04,04,14,14,24";
        int[] goes = {0b10001, 0b10010, 0b10100};
        for (int manner = 0; manner < 3; manner++) {
            HalfCuts x = madeWithin(text, HALF);
            lay(x, 0, 2, manner, 20);
            HalfCuts passed = madeWithin(text, HALF);
            passed.pass(manner);
            due("manner " + manner, x.day(0, 2, 0, 1, 2), passed.ofSide(1, 0));
            due("manner " + manner, x.day(0, 2, 0, 1, 2), goes[manner]);
        }
    }

    @Says("FIRST WRONG: the first act that can't be")
    static void terms_the_first_wrong_is_the_first_of_several() {
        due("the first", dayOf(FOUR, 1, 0, 3, 0, 4), 0);
        due("the second", dayOf(FOUR, 1, 0, 0, 0, 3, 0, 4, 0, 3), 1);
        due("the twentieth", dayOf(FOUR, 1, 0, 0, 0, 0, 0, 0, 0, 0, 0, 0, 0, 0, 0, 0, 0, 0, 0, 0, 0, 0, 0, 0, 0, 0,
            0, 0, 0, 0, 0, 0, 0, 0, 0, 0, 0, 0, 0, 0, 0, 3), 19);
        due("none", dayOf(FOUR, 1, 0, 0, 1, 13, 2, 20), NONE);
        due("of no acts", dayOf(FOUR, 1), NONE);
    }

    @Says("(there is no such CELL;")
    static void terms_an_act_of_no_cell_cannot_be() {
        due("the last CELL moves", dayOf("h;p1l;p1l", 1, 0, 1), NONE);
        due("the next one", dayOf("h;p1l;p1l", 1, 0, 2), 0);
        due("CELL 6", dayOf("h;p1l;p1l", 1, 0, 6), 0);
        due("BULK of the last CELL", dayOf("h;p1l;p1l", 1, 5, 11), NONE);
        due("BULK of the next one", dayOf("h;p1l;p1l", 1, 5, 12), 0);
        due("BULK of CELL 6", dayOf("h;p1l;p1l", 1, 5, 16), 0);
    }

    @Says("it is FIXED, and would move).")
    static void terms_a_fixed_one_cannot_move_but_have_another_bulk() {
        due("R", dayOf("h;p1l;p1R", 1, 0, 1), 0);
        due("L", dayOf("h;p1L;p1r", 1, 0, 0), 0);
        due("BULK of a FIXED one", dayOf("h;p1l;p1R", 1, 5, 11), NONE);
        due("a PASS with FIXED ones", dayOf("h;p1L;p1R", 1, 0, 20), NONE);
    }

    // ---- 8 move

    @Says("A CELL goes to the other side (whatever the BOUND): how many NETS are CUT then.")
    static void p08_a_cell_goes_to_the_other_side_whatever_the_bound() {
        HalfCuts x = madeWithin("h;p4l;p4r,01", HALF);
        due("there", x.move(0), 0);
        due("right", x.ofSide(1, 0), 0b11);
        due("and back", x.move(0), 1);
        due("right", x.ofSide(1, 0), 0b10);
        due("the other one", x.move(1), 0);
        due("right", x.ofSide(1, 0), 0);
        due("the last of seven", made(SEVEN).move(6), 1);
    }

    @Says("UNKNOWN;")
    static void p08_no_such_cell() {
        for (int c : new int[] {LEAST, -1, 4, 7, MOST}) {
            refused("CELL " + c, Edge::busy, x -> x.move(c), UNKNOWN);
        }
        refused("without a circuit", Edge::bare, x -> x.move(0), UNKNOWN);
    }

    @Says("STATE: it is FIXED.")
    static void p08_a_fixed_one() {
        refused("R", Edge::busy, x -> x.move(3), STATE);
        due("L", made("h;p1L").move(0), STATE);
    }

    // ---- 9 pass

    @Says("A PASS by a MANNER (0 .. 2): how many moves stay.")
    static void p09_a_pass_tells_how_many_moves_stay() {
        int[] stays = {2, 2, 2};
        for (int manner = 0; manner < 3; manner++) {
            HalfCuts x = made("h;p1l;p1l;p1R,01,01,02");
            due("manner " + manner, x.pass(manner), stays[manner]);
            due("right", x.ofSide(1, 0), 0b111);
        }
        due("none", made("h;p1l").pass(2), 0);
        due("one of seven", made("h;p1l;p1r;p1r;p1r;p1r;p1r;p1r,01,02,03,04,05,06").pass(0), 1);
    }

    @Says("STATE: there is no CIRCUIT;")
    static void p09_no_circuit() {
        refused("manner 0", Edge::bare, x -> x.pass(0), STATE);
        refused("manner 3", Edge::bare, x -> x.pass(3), STATE);
    }

    @Says("OUTSIDE.")
    static void p09_no_such_manner() {
        for (int manner : new int[] {LEAST, -1, 3, MOST}) {
            refused("manner " + manner, Edge::busy, x -> x.pass(manner), OUTSIDE);
        }
    }

    // ---- 10 tries

    @Says("What a PASS by a MANNER would do (nothing is changed):")
    static void p10_tries_change_nothing() {
        for (int manner = 0; manner < 3; manner++) {
            int by = manner;
            HalfCuts x = busy();
            refused("a try", Edge::busy, y -> y.tries(by, 1), x.pass(manner));
        }
    }

    @Says("how many moves there are in it (what 0),")
    static void p10_what_0_is_how_many_moves() {
        due("three", made(TIED).tries(0, 0), 3);
        due("none", made("h;p1R").tries(0, 0), 0);
        due("seven", made(SEVEN).tries(2, 0), 7);
    }

    @Says("how many stay (1),")
    static void p10_what_1_is_how_many_stay() {
        due("all", made(TIED).tries(0, 1), 3);
        due("one of two", made("h;p4l;p4r,01").tries(0, 1), 1);
        due("none", made("h;p1r;p1R,01").tries(0, 1), 0);
    }

    @Says("how many NETS are CUT then (2),")
    static void p10_what_2_is_how_many_are_cut_then() {
        due("none", made(TIED).tries(0, 2), 0);
        due("as many as there were", made("h;p1L;p1R,01,01").tries(0, 2), 2);
        due("where the best beginning ends", made("h;p4l;p4r,01").tries(0, 2), 0);
    }

    @Says("the CELL that is moved k-th (10 and k, from 0 on;")
    static void p10_what_10_and_k_is_the_cell_moved_k_th() {
        order(TIED, 1, 2, 1, 0);
        due("of seven the first", made("h;p1l;p2l;p3l;p4l;p5l;p6l;p7l").tries(1, 10), 6);
        due("of seven the last", made("h;p1l;p2l;p3l;p4l;p5l;p6l;p7l").tries(1, 16), 0);
        due("one that does not stay, too", made("h;p4l;p4r,01").tries(0, 11), 1);
    }

    @Says("NONE: there are not so many).")
    static void p10_NONE_beyond_the_moves() {
        due("behind the last", made(TIED).tries(0, 13), NONE);
        due("the most", made(TIED).tries(0, 16), NONE);
        due("of no moves", made("h;p1R").tries(0, 10), NONE);
        HalfCuts x = made(SEVEN);
        due("moves of seven CELLS", x.tries(0, 16) == NONE ? 1 : 0, 0);
        due("one CELL", read(x, "h;p1l"), 1);
        due("not those of an earlier one", x.tries(0, 11), NONE);
    }

    @Says("STATE: there is no CIRCUIT;")
    static void p10_no_circuit() {
        refused("manner 0", Edge::bare, x -> x.tries(0, 0), STATE);
        refused("manner 3", Edge::bare, x -> x.tries(3, 0), STATE);
        refused("what 3", Edge::bare, x -> x.tries(0, 3), STATE);
    }

    @Says("OUTSIDE: manner, what (0 .. 2, 10 .. 16).")
    static void p10_no_such_manner_or_what() {
        for (int manner : new int[] {LEAST, -1, 3, MOST}) {
            refused("manner " + manner, Edge::busy, x -> x.tries(manner, 0), OUTSIDE);
        }
        for (int what : new int[] {LEAST, -1, 3, 9, 17, MOST}) {
            refused("what " + what, Edge::busy, x -> x.tries(0, what), OUTSIDE);
        }
    }

    // ---- 11 settle

    /** Two passes gain, the third does not: by the bound not all can go at once. */
    private static final String SLOW = "h;d1l;p8L;d2r;b4l,0321,02,20,120";
    private static final int SLOW_BOUND = bits(31, 32);

    @Says("PASSES by a MANNER, one behind another, till one leaves as many NETS CUT as there were:")
    static void p11_passes_till_one_leaves_as_many_cut() {
        HalfCuts x = madeWithin(SLOW, SLOW_BOUND);
        HalfCuts y = madeWithin(SLOW, SLOW_BOUND);
        due("CUT ahead", x.many(2), 4);
        y.pass(0);
        due("CUT behind one", y.many(2), 2);
        y.pass(0);
        due("CUT behind two", y.many(2), 1);
        due("passes", x.settle(0), 3);
        due("CUT then", x.many(2), 1);
        due("right then", x.ofSide(1, 0), 0b1000);
        due("by its own manner", madeTied().settle(1), 2);
        HalfCuts z = madeTied();
        z.settle(1);
        due("right then", z.ofSide(1, 0), 0b1100);
    }

    /** Found by a search. */
    @Says("one behind another, till one leaves as many NETS CUT as there were:")
    static void p11_five_passes_by_each_manner() {
        settlesIn(5, "h;p1r;b2r;b2l;d9r;b5r;d6L;b2l,534,364,2051,4561,45,365", 1063032961, 0);
        settlesIn(5, "h;b7r;p4l;b4L;p2r;b9r;d2r,2145,102,5413,231,51,5123", 1065315232, 1);
        settlesIn(5, "h;p6r;p4l;p7l;d7R;p9r;d7r,014,0234,24,4125,231,3241", 1063654345, 2);
    }

    /** The most that can be: all six NETS are CUT, and each PASS but the last leaves one fewer. */
    @Says("till one leaves as many NETS CUT as there were:")
    static void p11_seven_passes_by_each_manner() {
        settlesIn(7, "h;d5l;b3L;p9l;d9r;d6r;b8l;p6l,046,0245,245,245,24,13", bits(46, 68), 0);
        settlesIn(7, "h;p5l;p5L;p8r;p1r;p5l;p7l;p3r,056,12,56,056,456,0356", bits(22, 34), 1);
        settlesIn(7, "h;b9l;b5r;p1L;d2l;d1r;p2r;p3l,01,0156,056,0156,0124,12", bits(24, 28), 2);
    }

    private static void settlesIn(int passes, String text, int bound, int manner) {
        HalfCuts passed = madeWithin(text, bound);
        int cut = passed.many(2);
        for (int k = 1; k <= passes; k++) {
            passed.pass(manner);
            due("pass " + k + " leaves fewer", passed.many(2) < cut ? 1 : 0, k < passes ? 1 : 0);
            cut = passed.many(2);
        }
        HalfCuts x = madeWithin(text, bound);
        due("passes", x.settle(manner), passes);
        due("CUT then", x.many(2), cut);
        due("right then", x.ofSide(1, 0), passed.ofSide(1, 0));
    }

    /** By the bound only one of cells 0 and 2 can go to the right. */
    private static HalfCuts madeTied() {
        return madeWithin("h;p1l;p8L;p2l;p7R,03,23", HALF);
    }

    @Says("how many PASSES there were (that one, too).")
    static void p11_the_last_pass_is_counted() {
        due("none gains", made("h;p1L;p1R,01").settle(0), 1);
        due("without nets", made("h;p1l").settle(1), 1);
        due("one gains", made(TIED).settle(2), 2);
        HalfCuts x = made(TIED);
        x.settle(0);
        due("settled already", x.settle(0), 1);
    }

    @Says("STATE: there is no CIRCUIT;")
    static void p11_no_circuit() {
        refused("manner 0", Edge::bare, x -> x.settle(0), STATE);
        refused("manner 3", Edge::bare, x -> x.settle(3), STATE);
    }

    @Says("OUTSIDE.")
    static void p11_no_such_manner() {
        for (int manner : new int[] {LEAST, -1, 3, MOST}) {
            refused("manner " + manner, Edge::busy, x -> x.settle(manner), OUTSIDE);
        }
    }

    // ---- 12 day

    @Says("A DAY of n pairs, that are cells of a SHEET from i on (2 n):")
    static void p12_a_day_is_2_n_cells_from_i_on() {
        for (int lane = 0; lane < 3; lane++) {
            HalfCuts x = made(FOUR);
            lay(x, 1, lane, 99, 0, 0, 0, 1, 99);
            due("from 1 on, 2", x.day(1, lane, 1, 2, 2), 0b1111);
            due("from 1 on, 1", x.day(1, lane, 1, 1, 2), 0b1101);
            due("from 3 on, 1", x.day(1, lane, 3, 1, 2), 0b1110);
            due("from 3 on, none", x.day(1, lane, 3, 0, 2), 0b1100);
            due("at the end, none", x.day(1, lane, 6, 0, 2), 0b1100);
        }
    }

    @Says("how many NETS are CUT then (what 0),")
    static void p12_what_0_is_how_many_are_cut_then() {
        due("as it is", dayOf(FOUR, 0), 2);
        due("behind a move", dayOf(FOUR, 0, 0, 1), 3);
        due("behind two", dayOf(FOUR, 0, 0, 1, 0, 0), 0);
        due("the most", dayOf("h;p1l;p1l,01,01,01,01,01,01", 0, 0, 1), 6);
    }

    @Says("its FIRST WRONG (1; NONE),")
    static void p12_what_1_is_the_first_wrong() {
        due("none", dayOf(FOUR, 1, 0, 1), NONE);
        due("of an empty day", dayOf(FOUR, 1), NONE);
        due("act 0", dayOf(FOUR, 1, 0, 3), 0);
        due("act 2", dayOf(FOUR, 1, 0, 1, 1, 20, 0, 3), 2);
    }

    @Says("CELLS on the right then, as a set (2),")
    static void p12_what_2_is_the_set_on_the_right_then() {
        due("as it is", dayOf(FOUR, 2), 0b1100);
        due("behind a move to the left", dayOf(FOUR, 2, 0, 2), 0b1000);
        due("all seven", dayOf("h;p1r;p1r;p1r;p1r;p1r;p1r;p1l", 2, 0, 6), 0b1111111);
        due("none", dayOf("h;p1r", 2, 0, 0), 0);
    }

    @Says("WEIGHTS of the left together then (3),")
    static void p12_what_3_is_the_weight_of_the_left_then() {
        due("as it is", dayOf(FOUR, 3), 6);
        due("behind a BULK", dayOf(FOUR, 3, 9, 11), 13);
        due("none", dayOf("h;p5l", 3, 0, 0), 0);
        due("the most", dayOf("h;d9l;d9l;d9l;d9l;d9l;d9l;d9r", 3, 0, 6), 126);
    }

    @Says("SHARE of the left then (4),")
    static void p12_what_4_is_the_share_of_the_left_then() {
        due("as it is", dayOf(FOUR, 4), bits(6, 19));
        due("behind a BULK on the left", dayOf(FOUR, 4, 9, 11), bits(13, 26));
        due("behind a BULK on the right", dayOf(FOUR, 4, 9, 12), bits(6, 29));
        due("none", dayOf("h;p5l", 4, 0, 0), 0);
        due("all", dayOf("h;p5r", 4, 0, 0), ONE);
    }

    @Says("GAIN of CELL c then, and 10 (10 and c;")
    static void p12_what_10_and_c_is_the_gain_then() {
        int[] asItIs = {10, 9, 10, 10};
        int[] then = {10, 12, 9, 8};
        for (int c = 0; c < 4; c++) {
            due("as it is " + c, dayOf(FOUR, 10 + c), asItIs[c]);
            due("behind a move " + c, dayOf(FOUR, 10 + c, 0, 0), then[c]);
        }
        due("of the seventh", dayOf(SEVEN, 16, 0, 0), 11);
    }

    @Says("NONE: there is no such CELL);")
    static void p12_NONE_where_there_is_no_such_cell() {
        for (int what = 14; what <= 16; what++) {
            due("what " + what, dayOf(FOUR, what, 0, 0), NONE);
        }
        due("CELL 1 of one", dayOf("h;p1l", 11), NONE);
    }

    @Says("of one with a FIRST WRONG: -100 less that (but what 1).")
    static void p12_minus_100_less_the_first_wrong() {
        for (int what : new int[] {0, 2, 3, 4, 10, 13, 14, 16}) {
            due("act 0, what " + what, dayOf(FOUR, what, 0, 3, 0, 0), -100);
            due("act 1, what " + what, dayOf(FOUR, what, 0, 0, 0, 4), -101);
        }
        due("what 1", dayOf(FOUR, 1, 0, 0, 0, 4), 1);
        int[] acts = new int[40];
        acts[39] = 6;
        due("act 19", dayOf(FOUR, 0, acts), -119);
    }

    @Says("UNKNOWN: SHEET;")
    static void p12_no_such_sheet() {
        for (int k : new int[] {LEAST, -1, 4, MOST}) {
            refusedNamingFaults("sheet " + k, Edge::busy, x -> x.day(k, 0, 0, 0, 0), UNKNOWN);
        }
    }

    @Says("OUTSIDE: lane,")
    static void p12_no_such_lane() {
        for (int lane : new int[] {LEAST, -1, 3, MOST}) {
            refusedNamingFaults("lane " + lane, Edge::busy, x -> x.day(1, lane, 0, 0, 0), OUTSIDE);
        }
    }

    @Says("n (0 .. 20),")
    static void p12_n_is_0_to_20() {
        due("20", dayOf(FOUR, 2, new int[40]), 0b1100);
        HalfCuts x = made(FOUR);
        lay(x, 0, 2, new int[42]);
        due("21, though they are there", x.day(0, 2, 0, 21, 0), OUTSIDE);
        due("20 from 2 on", x.day(0, 2, 2, 20, 0), 2);
        for (int n : new int[] {LEAST, -1, 21, MOST}) {
            refusedNamingFaults("n " + n, Edge::busy, y -> y.day(1, 2, 0, n, 0), OUTSIDE);
            refusedNamingFaults("n " + n + " of nothing", Edge::busy, y -> y.day(2, 2, 0, n, 0), OUTSIDE);
        }
    }

    @Says("what (0 .. 4, 10 .. 16);")
    static void p12_no_such_what() {
        for (int what : new int[] {LEAST, -1, 5, 9, 17, MOST}) {
            refusedNamingFaults("what " + what, Edge::busy, x -> x.day(1, 2, 0, 0, what), OUTSIDE);
            refusedNamingFaults("what " + what + " of nothing", Edge::busy, x -> x.day(2, 2, 0, 0, what), OUTSIDE);
        }
    }

    @Says("FAULTS CAST,")
    static void p12_another_lane_is_CAST() {
        faulted("ints as bytes", Edge::busy, x -> x.day(1, 0, 0, 0, 0), CAST);
        faulted("bytes as ints", Edge::busy, x -> x.day(0, 2, 0, 0, 0), CAST);
        faulted("without a circuit", Edge::bare, x -> x.day(0, 1, 0, 0, 0), CAST);
    }

    @Says("NULL,")
    static void p12_nothing_is_NULL() {
        for (int lane = 0; lane < 3; lane++) {
            int as = lane;
            faulted("nothing as " + lane, Edge::busy, x -> x.day(2, as, 0, 0, 0), NULL);
        }
        faulted("without a circuit", Edge::bare, x -> x.day(1, 0, 0, 0, 0), NULL);
    }

    @Says("INDEX;")
    static void p12_not_all_cells_there_is_INDEX() {
        faulted("4 pairs of 7 cells", Edge::busy, x -> x.day(1, 2, 0, 4, 0), INDEX);
        faulted("3 pairs from 2 on", Edge::busy, x -> x.day(1, 2, 2, 3, 0), INDEX);
        faulted("i -1", Edge::busy, x -> x.day(1, 2, -1, 1, 0), INDEX);
        faulted("i 8", Edge::busy, x -> x.day(1, 2, 8, 0, 0), INDEX);
        faulted("i most", Edge::busy, x -> x.day(1, 2, MOST, 20, 0), INDEX);
        faulted("i least", Edge::busy, x -> x.day(1, 2, LEAST, 20, 0), INDEX);
        faulted("without a circuit", Edge::bare, x -> x.day(0, 0, 1, 1, 0), INDEX);
        due("3 pairs of 7 cells", busy().day(1, 2, 0, 3, 1), NONE);
    }

    @Says("STATE: there is no CIRCUIT;")
    static void p12_no_circuit() {
        refusedNamingFaults("no pairs", Edge::bare, x -> x.day(0, 0, 0, 0, 0), STATE);
        refusedNamingFaults("a pair that is not as told", Edge::bare, x -> x.day(0, 0, 0, 1, 0), STATE);
    }

    private static void notAsTold(int first, int second) {
        for (int what : new int[] {0, 1, 16}) {
            due("pair " + first + " " + second, dayOf(FOUR, what, first, second), OUTSIDE);
        }
        due("pair " + first + " " + second + " behind one", dayOf(FOUR, 2, 0, 0, first, second), OUTSIDE);
        due("pair " + first + " " + second + " behind a wrong one", dayOf(FOUR, 1, 0, 3, first, second), OUTSIDE);
    }

    @Says("pair by pair OUTSIDE: the second is not 0 .. 6, 10 .. 16, 20,")
    static void p12_the_second_of_a_pair_is_not_as_told() {
        for (int second : new int[] {LEAST, -1, 7, 8, 9, 17, 18, 19, 21, MOST}) {
            notAsTold(0, second);
            notAsTold(1, second);
        }
        for (int second : new int[] {0, 3, 6}) {
            due("second " + second, dayOf(SEVEN, 1, 0, second), NONE);
        }
        for (int second : new int[] {10, 13, 16, 20}) {
            due("second " + second, dayOf(SEVEN, 1, 1, second), NONE);
        }
        refusedNamingFaults("nothing is changed", Edge::busy, x -> x.day(1, 2, 1, 1, 0), OUTSIDE);
    }

    @Says("the first is not as told with it.")
    static void p12_the_first_of_a_pair_is_not_as_told_with_it() {
        for (int first : new int[] {LEAST, -1, 1, 9, MOST}) {
            notAsTold(first, 0);
            notAsTold(first, 6);
        }
        for (int first : new int[] {LEAST, -1, 0, 10, MOST}) {
            notAsTold(first, 10);
            notAsTold(first, 16);
        }
        for (int first : new int[] {LEAST, -1, 3, 9, MOST}) {
            notAsTold(first, 20);
        }
        int[][] good = {{0, 0}, {1, 10}, {9, 10}, {0, 20}, {2, 20}};
        for (int[] pair : good) {
            due("pair " + pair[0] + " " + pair[1], dayOf(FOUR, 1, pair), NONE);
        }
    }
}
