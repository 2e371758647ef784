/** Promises 13 to 18, and what the Terms say of the least cut, of cells apart and together, and of racks. */
final class CutsEdges extends Edge {
    private static void leastIs(HalfCuts x, int cut, int set) {
        due("how many", x.least(0), cut);
        due("the set", x.least(1), set);
    }

    // ---- least

    @Says("LEAST: the fewest NETS that are CUT by any sides of CELLS that are not FIXED,")
    static void terms_least_is_by_any_sides_of_cells_that_are_not_fixed() {
        leastIs(made("h;p1l;p1r,01"), 0, 0);
        leastIs(made("h;p1L;p1r,01"), 0, 0);
        leastIs(made("h;p1l;p1R,01"), 0, 0b11);
        leastIs(made("h;p1L;p1R,01"), 1, 0b10);
        leastIs(made("h;p1L;p1R,01,01,01,01,01,01"), 6, 0b10);
        leastIs(made("h;p1L;p1l;p1l;p1R,01,12,23,13"), 1, 0b1110);
    }

    @Says("by which both sides are WITHIN;")
    static void terms_least_has_both_sides_within() {
        leastIs(madeWithin("h;p1l;p1R,01", HALF), 1, 0b10);
        leastIs(madeWithin("h;p1l;p1L,01", HALF), 1, 0b01);
        leastIs(madeWithin("h;p2l;p1R,01", bits(2, 3)), 1, 0b10);
        leastIs(madeWithin("h;p2l;p1R,01", bits(2, 3) - 1), NONE, NONE);
        leastIs(madeWithin("h;p1l;p3l;p4l", HALF), 0, 0b011);
        leastIs(madeWithin("h;p1l;p2r", ONE - 1), 0, 0b01);
    }

    @Says("of several the set of CELLS on the right that is least as a number.")
    static void terms_of_several_the_least_set() {
        leastIs(made("h;p1r;p1r;p1r"), 0, 0);
        leastIs(made("h;p1r;p1R;p1r"), 0, 0b010);
        leastIs(madeWithin("h;p1l;p1l;p1l;p1l,01,12,23", HALF), 1, 0b0011);
        leastIs(madeWithin("h;p1l;p1l;p1l;p1l,03,12", HALF), 0, 0b0110);
    }

    // ---- apart

    @Says("APART of two CELLS: the fewest NETS that are CUT by any sides of all CELLS")
    static void terms_apart_is_by_any_sides_of_all_cells() {
        due("no nets", made("h;p1l;p1r").apart(0, 1), 0);
        due("six nets", made("h;p1l;p1l,01,01,01,01,01,01").apart(0, 1), 6);
        due("by way of a third", made("h;p1l;p1l;p1l,02,12,12").apart(0, 1), 1);
        due("a net of four is cut once", made("h;p1l;p1l;p1l;p1l,0123").apart(0, 3), 1);
        due("two ways", made("h;p1l;p1l;p1l;p1l,01,13,02,23").apart(0, 3), 2);
    }

    @Says("(FIXED ones, too;")
    static void terms_apart_moves_fixed_cells_too() {
        due("both on the other's side", made("h;p1R;p1L,01").apart(0, 1), 1);
        due("both on one side", made("h;p1R;p1R").apart(0, 1), 0);
        due("a third that is FIXED on the left", made("h;p1l;p1r;p1L,02,12,12").apart(0, 1), 1);
        due("a third that is FIXED on the right", made("h;p1l;p1r;p1R,02,02,12").apart(0, 1), 1);
    }

    @Says("whatever the BOUND), the first on the left, the second on the right.")
    static void terms_apart_is_whatever_the_bound() {
        HalfCuts x = madeWithin("h;p9l;p1l;p9l,02,12", HALF);
        due("0 and 1", x.apart(0, 1), 1);
        due("1 and 0", x.apart(1, 0), 1);
        due("the same sides as now are not asked", made("h;p1r;p1r,01,01").apart(1, 0), 2);
        due("one CELL heavier than all others", madeWithin("h;p9l;p1l", HALF).apart(0, 1), 0);
    }

    // ---- closest

    private static void closestAre(String text, int shared, int first, int second) {
        HalfCuts x = made(text);
        due(text + ": shared", x.closest(0), shared);
        due(text + ": first", x.closest(1), first);
        due(text + ": second", x.closest(2), second);
    }

    @Says("CLOSEST: the two CELLS that are together of the most NETS;")
    static void terms_closest_share_the_most_nets() {
        closestAre("h;p1l;p1l;p1l,01,12,12", 2, 1, 2);
        closestAre("h;p1l;p1l;p1l;p1l;p1l;p1l;p1l,01,56,56,56,56,56", 5, 5, 6);
        closestAre("h;p1l;p1l,01,10,01,10,01,10", 6, 0, 1);
        closestAre("h;p1l;p1l;p1l;p1l,012,123,23", 2, 1, 2);
    }

    @Says("of several the least first one,")
    static void terms_of_several_the_least_first_one() {
        closestAre("h;p1l;p1l;p1l;p1l,23,01", 1, 0, 1);
        closestAre("h;p1l;p1l;p1l;p1l,12,03", 1, 0, 3);
        closestAre("h;p1l;p1l;p1l;p1l", 0, 0, 1);
    }

    @Says("then the least second one (which is greater).")
    static void terms_then_the_least_second_one() {
        closestAre("h;p1l;p1l;p1l;p1l,03,02", 1, 0, 2);
        closestAre("h;p1l;p1l;p1l;p1l,13,21", 1, 1, 2);
        closestAre("h;p1l;p1l;p1l,20,20", 2, 0, 2);
    }

    // ---- racks

    @Says("A RACK of a kind has 0 .. 9 places")
    static void terms_a_rack_has_0_to_9_places() {
        for (int n = 0; n <= 9; n++) {
            HalfCuts x = made(FOUR);
            due("places", x.rack(0, n), n);
            for (int i = 0; i < n; i++) {
                due("place " + i, x.stow(i, 0), 1);
            }
            due("place " + n, x.stow(n, 0), -10 - INDEX);
        }
        due("10", made(FOUR).rack(0, 10), OUTSIDE);
    }

    @Says("that take CELLS of this kind alone")
    static void terms_a_rack_takes_cells_of_its_kind_alone() {
        HalfCuts x = made("h;p1l;b1l;d1l");
        due("BULKY", x.rack(1, 2), 2);
        due("a PLAIN one", x.stow(0, 0), -10 - STORE);
        due("a BULKY one", x.stow(0, 1), 1);
        due("DOUBLE", x.rack(2, 2), 2);
        due("a PLAIN one", x.stow(0, 0), -10 - STORE);
        due("a BULKY one", x.stow(0, 1), -10 - STORE);
        due("a DOUBLE one", x.stow(0, 2), 1);
    }

    @Says("(each is a PLAIN one, too; a DOUBLE one is a BULKY one);")
    static void terms_a_rack_takes_cells_that_are_of_its_kind_too() {
        HalfCuts x = made("h;p1l;b1l;d1l");
        due("PLAIN", x.rack(0, 3), 3);
        for (int c = 0; c < 3; c++) {
            due("CELL " + c, x.stow(c, c), 1);
        }
        due("BULKY", x.rack(1, 1), 1);
        due("a DOUBLE one", x.stow(0, 2), 1);
    }

    @Says("nothing stands there at first.")
    static void terms_nothing_stands_in_a_new_rack() {
        HalfCuts x = made(FOUR);
        for (int kind = 0; kind < 3; kind++) {
            due("rack", x.rack(kind, 9), 9);
            for (int i = 0; i < 9; i++) {
                due("place " + i, x.stowed(i), NONE);
                due("stow", x.stow(i, 2), 1);
            }
        }
    }

    // ---- 13 least

    @Says("LEAST: how many (what 0;")
    static void p13_what_0_is_how_many() {
        due("none", made(FOUR).least(0), 0);
        due("by a bound", madeWithin(FOUR, bits(14, 19)).least(0), 2);
        HalfCuts x = made("h;p1l;p1r;p1R,01,12");
        x.move(0);
        due("however the sides are", x.least(0), 0);
    }

    @Says("NONE: by none both sides are WITHIN),")
    static void p13_NONE_where_none_is_within() {
        leastIs(madeWithin("h;p1l", ONE - 1), NONE, NONE);
        leastIs(madeWithin("h;p3l;p1l", HALF), NONE, NONE);
        leastIs(madeWithin("h;p1L;p1L;p2r", bits(1, 2)), 0, 0b100);
        leastIs(madeWithin("h;p1L;p2L;p2r", bits(1, 2)), NONE, NONE);
    }

    @Says("the set (1; NONE).")
    static void p13_what_1_is_the_set() {
        due("FIXED ones, too", made(FOUR).least(1), 0b1111);
        due("by a bound", madeWithin(FOUR, bits(14, 19)).least(1), 0b1000);
        due("none on the right", made("h;p1r").least(1), 0);
        refused("nothing is changed", Edge::busy, x -> x.least(1), 0b1000);
    }

    @Says("STATE: there is no CIRCUIT;")
    static void p13_no_circuit() {
        refused("what 0", Edge::bare, x -> x.least(0), STATE);
        refused("what 2", Edge::bare, x -> x.least(2), STATE);
    }

    @Says("OUTSIDE.")
    static void p13_no_such_what() {
        for (int what : new int[] {LEAST, -1, 2, MOST}) {
            refused("what " + what, Edge::busy, x -> x.least(what), OUTSIDE);
            due("none within, what " + what, madeWithin("h;p1l", HALF).least(what), OUTSIDE);
        }
    }

    // ---- 14 apart

    @Says("APART of two CELLS.")
    static void p14_apart() {
        due("0 and 1", made(FOUR).apart(0, 1), 2);
        due("3 and 0", made(FOUR).apart(3, 0), 2);
        due("the last of seven", made(SEVEN).apart(0, 6), 1);
        due("the last of seven", made(SEVEN).apart(6, 5), 0);
        refused("nothing is changed", Edge::busy, x -> x.apart(0, 1), 2);
    }

    @Says("UNKNOWN: either,")
    static void p14_either_is_not_there() {
        for (int c : new int[] {LEAST, -1, 4, 7, MOST}) {
            refused("the first is " + c, Edge::busy, x -> x.apart(c, 0), UNKNOWN);
            refused("the second is " + c, Edge::busy, x -> x.apart(0, c), UNKNOWN);
            refused("both are " + c, Edge::busy, x -> x.apart(c, c), UNKNOWN);
        }
        refused("without a circuit", Edge::bare, x -> x.apart(0, 1), UNKNOWN);
    }

    @Says("both the same.")
    static void p14_both_are_the_same() {
        for (int c = 0; c < 4; c++) {
            int twice = c;
            refused("CELL " + c + " twice", Edge::busy, x -> x.apart(twice, twice), UNKNOWN);
        }
    }

    // ---- 15 closest

    @Says("CLOSEST: how many NETS they share (what 0),")
    static void p15_what_0_is_how_many_they_share() {
        due("two", made(FOUR).closest(0), 2);
        due("none", made("h;p1l;p1l").closest(0), 0);
        due("six", made("h;p1l;p1l,01,01,01,01,01,01").closest(0), 6);
    }

    @Says("the first CELL (1),")
    static void p15_what_1_is_the_first() {
        due("0", made(FOUR).closest(1), 0);
        due("5", made("h;p1l;p1l;p1l;p1l;p1l;p1l;p1l,65").closest(1), 5);
    }

    @Says("the second one (2).")
    static void p15_what_2_is_the_second() {
        due("1", made(FOUR).closest(2), 1);
        due("6", made("h;p1l;p1l;p1l;p1l;p1l;p1l;p1l,65").closest(2), 6);
        refused("nothing is changed", Edge::busy, x -> x.closest(2), 1);
    }

    @Says("STATE: there are fewer than two CELLS;")
    static void p15_fewer_than_two_cells() {
        for (int what : new int[] {-1, 0, 1, 2, 3}) {
            refused("no circuit, what " + what, Edge::bare, x -> x.closest(what), STATE);
            refused("one CELL, what " + what, () -> made("h;p1l"), x -> x.closest(what), STATE);
        }
        due("two", made("h;p1l;p1R").closest(0), 0);
    }

    @Says("OUTSIDE.")
    static void p15_no_such_what() {
        for (int what : new int[] {LEAST, -1, 3, MOST}) {
            refused("what " + what, Edge::busy, x -> x.closest(what), OUTSIDE);
        }
    }

    // ---- 16 rack

    @Says("A new RACK of a kind (0 .. 2) with n places: n.")
    static void p16_a_new_rack_has_n_places() {
        for (int kind = 0; kind < 3; kind++) {
            HalfCuts x = busy();
            due("none", x.rack(kind, 0), 0);
            due("place 0 of none", x.stowed(0), -10 - INDEX);
            due("9", x.rack(kind, 9), 9);
            due("how many", x.many(3), 9);
            due("the last", x.stow(8, 2), 1);
            due("a new one in its place", x.rack(kind, 9), 9);
            due("nothing stands there", x.stowed(8), NONE);
            due("no fault", x.fault(), 0);
        }
    }

    @Says("STATE: there is no CIRCUIT;")
    static void p16_no_circuit() {
        refusedNamingFaults("good", Edge::bare, x -> x.rack(0, 1), STATE);
        refusedNamingFaults("kind 3", Edge::bare, x -> x.rack(3, 1), STATE);
        refusedNamingFaults("10 places", Edge::bare, x -> x.rack(0, 10), STATE);
        refusedNamingFaults("-1 places", Edge::bare, x -> x.rack(0, -1), STATE);
    }

    @Says("OUTSIDE: kind,")
    static void p16_no_such_kind() {
        for (int kind : new int[] {LEAST, -1, 3, MOST}) {
            refusedNamingFaults("kind " + kind, Edge::busy, x -> x.rack(kind, 1), OUTSIDE);
            refusedNamingFaults("kind " + kind + ", -1 places", Edge::busy, x -> x.rack(kind, -1), OUTSIDE);
        }
    }

    @Says("n above 9;")
    static void p16_n_above_9() {
        for (int n : new int[] {10, 11, MOST}) {
            refusedNamingFaults("n " + n, Edge::busy, x -> x.rack(0, n), OUTSIDE);
        }
    }

    @Says("FAULT SIZE.")
    static void p16_n_below_0_is_SIZE() {
        for (int n : new int[] {-1, -9, LEAST}) {
            faulted("n " + n, Edge::busy, x -> x.rack(0, n), SIZE);
        }
    }

    // ---- 17 stow

    @Says("A CELL is put in place i of the RACK: 1.")
    static void p17_a_cell_is_put_in_a_place() {
        HalfCuts x = busy();
        due("the first place", x.stow(0, 1), 1);
        due("the last place", x.stow(2, 1), 1);
        due("it stands there", x.stowed(0), 1);
        due("it stands there, too", x.stowed(2), 1);
        due("another stays", x.stowed(1), 2);
        due("another in its place", x.stow(0, 2), 1);
        due("it stands there", x.stowed(0), 2);
        due("no fault", x.fault(), 0);
    }

    @Says("UNKNOWN: CELL;")
    static void p17_no_such_cell() {
        for (int c : new int[] {LEAST, -1, 4, 7, MOST}) {
            refusedNamingFaults("CELL " + c, Edge::busy, x -> x.stow(0, c), UNKNOWN);
            refusedNamingFaults("CELL " + c + ", no such place", Edge::busy, x -> x.stow(3, c), UNKNOWN);
        }
        refusedNamingFaults("without a circuit", Edge::bare, x -> x.stow(0, 0), UNKNOWN);
    }

    @Says("FAULTS NULL: there is no RACK,")
    static void p17_no_rack_is_NULL() {
        faulted("good", () -> made(FOUR), x -> x.stow(0, 0), NULL);
        faulted("place -1", () -> made(FOUR), x -> x.stow(-1, 0), NULL);
        HalfCuts x = made(FOUR);
        x.rack(0, 0);
        due("a RACK without places is one", x.stow(0, 0), -10 - INDEX);
    }

    @Says("INDEX,")
    static void p17_no_such_place_is_INDEX() {
        for (int i : new int[] {LEAST, -1, 3, 9, MOST}) {
            faulted("place " + i, Edge::busy, x -> x.stow(i, 2), INDEX);
            faulted("place " + i + ", another kind", Edge::busy, x -> x.stow(i, 0), INDEX);
        }
        HalfCuts x = busy();
        x.rack(0, 9);
        x.rack(0, 2);
        due("a place of an earlier RACK", x.stow(2, 0), -10 - INDEX);
    }

    private static HalfCuts busyBehindNull() {
        HalfCuts x = busy();
        due("put", x.put(2, 0, 0), -10 - NULL);
        return x;
    }

    @Says("STORE.")
    static void p17_another_kind_is_STORE() {
        for (int i = 0; i < 3; i++) {
            int place = i;
            faulted("a PLAIN one", CutsEdges::busyBehindNull, x -> x.stow(place, 0), STORE);
            faulted("another PLAIN one", CutsEdges::busyBehindNull, x -> x.stow(place, 3), STORE);
        }
    }

    // ---- 18 stowed

    @Says("The CELL in place i of the RACK;")
    static void p18_the_cell_in_a_place() {
        HalfCuts x = made(FOUR);
        x.rack(0, 9);
        for (int c = 0; c < 4; c++) {
            x.stow(8 - c, c);
        }
        for (int c = 0; c < 4; c++) {
            due("place " + (8 - c), x.stowed(8 - c), c);
        }
        x.move(0);
        x.bulk(0, 9);
        due("behind a move", x.stowed(8), 0);
        due("no fault", x.fault(), 0);
    }

    @Says("NONE: nothing stands there.")
    static void p18_NONE_where_nothing_stands() {
        changesNothing("place 0", Edge::busy, x -> x.stowed(0), NONE, 0);
        due("place 2", busy().stowed(2), NONE);
        HalfCuts x = busyBehindNull();
        x.stow(0, 0);
        due("where STORE was", x.stowed(0), NONE);
    }

    @Says("FAULTS NULL: there is no RACK,")
    static void p18_no_rack_is_NULL() {
        faulted("without a circuit", Edge::bare, x -> x.stowed(0), NULL);
        faulted("with a circuit", () -> made(FOUR), x -> x.stowed(0), NULL);
        faulted("place -1", () -> made(FOUR), x -> x.stowed(-1), NULL);
        faulted("a refused one is none", CutsEdges::behindRefusedRack, x -> x.stowed(0), NULL);
    }

    private static HalfCuts behindRefusedRack() {
        HalfCuts x = made(FOUR);
        due("refused", x.rack(0, 10), OUTSIDE);
        due("SIZE", x.rack(0, -1), -10 - SIZE);
        return x;
    }

    @Says("INDEX.")
    static void p18_no_such_place_is_INDEX() {
        for (int i : new int[] {LEAST, -1, 3, 9, MOST}) {
            faulted("place " + i, Edge::busy, x -> x.stowed(i), INDEX);
        }
    }
}
