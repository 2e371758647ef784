/** Promises 19 to 23, and what the Terms say of readings and odds. */
final class HeavyEdges extends Edge {
    private static final int ALL_BULKS = 0b1111111110;

    private static HalfCuts withReadings(String text, int... cellsAndBits) {
        HalfCuts x = made(text);
        for (int k = 0; k < cellsAndBits.length; k += 2) {
            due("reading", x.reading(cellsAndBits[k], cellsAndBits[k + 1]), k / 2);
        }
        return x;
    }

    private static HalfCuts full() {
        HalfCuts x = busy();
        for (int k = 2; k < 8; k++) {
            due("reading", x.reading(k % 4, k), k);
        }
        return x;
    }

    // ---- readings

    @Says("READINGS, 8 at most,")
    static void terms_there_are_8_readings_at_most() {
        HalfCuts x = full();
        due("how many", x.many(4), 8);
        due("a ninth", x.reading(0, 0), FULL);
        due("how many", x.many(4), 8);
        due("one back", x.back(1), 7);
        due("an eighth again", x.reading(0, 0), 7);
        due("a ninth", x.reading(0, 0), FULL);
    }

    @Says("numbered by how many there are:")
    static void terms_a_reading_is_numbered_by_how_many_there_are() {
        HalfCuts x = made(FOUR);
        for (int k = 0; k < 5; k++) {
            due("there are " + k, x.many(4), k);
            due("number " + k, x.reading(0, 0), k);
        }
        due("three back", x.back(3), 2);
        due("there are 2", x.reading(0, 0), 2);
    }

    @Says("WEIGHT of a CELL by those of all, as a FLOAT, has bits f.")
    static void terms_a_reading_is_of_the_very_bits() {
        for (int off = -1; off <= 1; off++) {
            HalfCuts x = withReadings(FOUR, 2, bits(8, 19) + off);
            due("off by " + off, x.kinds(2), off == 0 ? 0b100 : 0);
            due("off by " + off, x.bulks(2), off == 0 ? 1 << 4 : 0);
        }
        due("alone it is 1 always", withReadings("h;p5l", 0, ONE).bulks(0), ALL_BULKS);
        due("alone it is 1 always", withReadings("h;p5l", 0, ONE).kinds(0), 0b111);
        due("it is never 0", withReadings("h;p5l", 0, 0).bulks(0), 0);
    }

    @Says("All that follows: in place of what it is alone,")
    static void terms_only_one_kind_or_bulk_is_put_in_place() {
        HalfCuts x = withReadings("h;b2l;p3r", 0, bits(1, 2));
        due("BULKY with BULK 2 weighs 3", x.kinds(0), 0b010);
        due("by another's kind", x.kinds(1), 0b001);
        due("by its BULK", x.bulks(0), 1 << 2);
        due("by another's BULK", x.bulks(1), 1 << 3);
        HalfCuts two = withReadings("h;p1l;p1l;p6l", 0, bits(2, 10));
        due("both would have to change", two.bulks(0), 0);
        due("as all is now, not as it was", behindBulk(), 1 << 5);
    }

    private static int behindBulk() {
        HalfCuts x = withReadings("h;p1l;p5r", 0, bits(1, 2));
        x.bulk(1, 9);
        x.bulk(0, 3);
        x.bulk(1, 5);
        return x.bulks(0);
    }

    @Says("by which all READINGS are so:")
    static void terms_all_readings_must_be_so() {
        HalfCuts x = withReadings(FOUR, 0, bits(6, 22), 2, bits(8, 22));
        due("both so", x.kinds(0), 0b100);
        due("both so", x.bulks(0), 1 << 6);
        due("one is not so", x.kinds(2), 0);
        due("a third that is not so", x.reading(1, bits(3, 19)), 2);
        due("none", x.kinds(0), 0);
        due("none", x.bulks(0), 0);
        due("back", x.back(1), 2);
        due("both so again", x.kinds(0), 0b100);
        due("those of others, too", withReadings(FOUR, 3, 0).bulks(0), 0);
        due("the first of eight is not so", firstOfEight(), 0);
    }

    private static int firstOfEight() {
        HalfCuts x = withReadings("h;p5l", 0, 0);
        for (int k = 1; k < 8; k++) {
            x.reading(0, ONE);
        }
        return x.bulks(0);
    }

    @Says("KINDS of a CELL: 0 .. 2;")
    static void terms_kinds_are_0_to_2() {
        due("all", made(FOUR).kinds(0), 0b111);
        due("PLAIN", withReadings("h;d3l;p3r", 0, bits(3, 6)).kinds(0), 0b001);
        due("BULKY", withReadings("h;d3l;p3r", 0, bits(4, 7)).kinds(0), 0b010);
        due("DOUBLE", withReadings("h;p3l;p3r", 0, bits(6, 9)).kinds(0), 0b100);
        due("BULKY and DOUBLE", withReadings("h;p1l;p3r", 0, bits(2, 5)).kinds(0), 0b110);
        due("none", withReadings("h;p1l;p3r", 0, bits(1, 2)).kinds(0), 0);
    }

    @Says("BULKS: 1 .. 9; as sets.")
    static void terms_bulks_are_1_to_9() {
        due("all", made(FOUR).bulks(0), ALL_BULKS);
        due("1", withReadings("h;p5l;p9r", 0, bits(1, 10)).bulks(0), 1 << 1);
        due("9", withReadings("h;p5l;p9r", 0, bits(9, 18)).bulks(0), 1 << 9);
        due("9 of a DOUBLE one", withReadings("h;d5l;p9r", 0, bits(18, 27)).bulks(0), 1 << 9);
        due("10 would be", withReadings("h;p5l;p9r", 0, bits(10, 19)).bulks(0), 0);
        due("0 would be", withReadings("h;b5l;p9r", 0, bits(1, 10)).bulks(0), 0);
    }

    // ---- odds

    private static void oddsAre(HalfCuts x, int v, int upper, int lower) {
        due("upper of " + v, x.odds(v, 0), upper);
        due("lower of " + v, x.odds(v, 1), lower);
    }

    @Says("ODDS of v: if CELLS that are not FIXED are on any sides, all alike")
    static void terms_odds_are_by_all_sides_alike() {
        oddsAre(made("h;p1l;p1l,01"), 0, 1, 2);
        oddsAre(made("h;p1L;p1l,01"), 0, 1, 2);
        oddsAre(made("h;p1L;p1R,01"), 0, 0, 1);
        oddsAre(made("h;p1R;p1R,01"), 0, 1, 1);
        oddsAre(made("h;p1l;p1l;p1l;p1l;p1l;p1l;p1l,01,12,23,34,45,56"), 0, 1, 64);
        HalfCuts x = made("h;p1l;p1l;p1l,01,12");
        x.move(1);
        oddsAre(x, 0, 1, 4);
        oddsAre(made("h;d9l;p1l;p1l,01,12"), 0, 1, 4);
    }

    @Says("(whatever the BOUND), the share by which v NETS or fewer are CUT.")
    static void terms_odds_are_of_v_nets_or_fewer_whatever_the_bound() {
        HalfCuts x = madeWithin("h;p1l;p1l;p1l,01,12", HALF);
        oddsAre(x, 0, 1, 4);
        oddsAre(x, 1, 3, 4);
        oddsAre(x, 2, 1, 1);
        oddsAre(x, 6, 1, 1);
        HalfCuts fixed = madeWithin("h;p1l;p1l;p1R,01,12", HALF);
        oddsAre(fixed, 0, 1, 4);
        oddsAre(fixed, 1, 3, 4);
        oddsAre(fixed, 2, 1, 1);
        oddsAre(made("h;p1L;p1R,01,01,01,01,01,01"), 5, 0, 1);
        oddsAre(made("h;p1L;p1R,01,01,01,01,01,01"), 6, 1, 1);
    }

    // ---- 19 reading

    @Says("A READING: its number.")
    static void p19_a_reading_tells_its_number() {
        HalfCuts x = made(SEVEN);
        for (int k = 0; k < 8; k++) {
            due("number", x.reading(k % 7, k), k);
        }
    }

    @Says("UNKNOWN;")
    static void p19_no_such_cell() {
        for (int c : new int[] {LEAST, -1, 4, 7, MOST}) {
            refused("CELL " + c, Edge::busy, x -> x.reading(c, 0), UNKNOWN);
            refused("CELL " + c + ", full", HeavyEdges::full, x -> x.reading(c, -1), UNKNOWN);
        }
        refused("without a circuit", Edge::bare, x -> x.reading(0, 0), UNKNOWN);
    }

    @Says("OUTSIDE: f (0 .. 1065353216);")
    static void p19_f_is_not_0_to_1() {
        HalfCuts x = made(FOUR);
        due("0", x.reading(0, 0), 0);
        due("1", x.reading(0, 1065353216), 1);
        for (int f : new int[] {-1, LEAST, 1065353217, 0x7f800000, 0x7fc00000, MOST}) {
            refused("bits " + f, Edge::busy, y -> y.reading(0, f), OUTSIDE);
            refused("bits " + f + ", full", HeavyEdges::full, y -> y.reading(0, f), OUTSIDE);
        }
    }

    @Says("FULL.")
    static void p19_a_ninth_is_FULL() {
        refused("a ninth", HeavyEdges::full, x -> x.reading(0, 0), FULL);
        HalfCuts x = full();
        x.back(8);
        due("behind all of them", x.reading(0, 0), 0);
    }

    // ---- 20 back

    @Says("The last n READINGS (0 .. as many as there are) are taken back: how many are left.")
    static void p20_the_last_n_are_taken_back() {
        HalfCuts x = withReadings(FOUR, 0, bits(3, 19), 2, bits(8, 19), 0, 0);
        due("none is so", x.kinds(2), 0);
        due("0", x.back(0), 3);
        due("still none is so", x.kinds(2), 0);
        due("1", x.back(1), 2);
        due("the last is gone", x.kinds(2), 0b100);
        due("2", x.back(2), 0);
        due("all are gone", x.kinds(2), 0b111);
        due("0 of none", x.back(0), 0);
        due("8 of 8", full().back(8), 0);
        due("without a circuit", new HalfCuts().back(0), 0);
    }

    @Says("OUTSIDE.")
    static void p20_n_is_not_as_told() {
        for (int n : new int[] {LEAST, -1, 3, MOST}) {
            refused("n " + n + " of 2", Edge::busy, x -> x.back(n), OUTSIDE);
        }
        refused("9 of 8", HeavyEdges::full, x -> x.back(9), OUTSIDE);
        refused("1 of none", () -> made(FOUR), x -> x.back(1), OUTSIDE);
        refused("1 without a circuit", Edge::bare, x -> x.back(1), OUTSIDE);
        refused("-1 without a circuit", Edge::bare, x -> x.back(-1), OUTSIDE);
    }

    // ---- 21 kinds, 22 bulks

    @Says("KINDS, as a set.")
    static void p21_kinds() {
        refused("nothing is changed", Edge::busy, x -> x.kinds(2), 0b100);
        due("without READINGS", made("h;d1R").kinds(0), 0b111);
        due("the last of seven", withReadings(SEVEN, 6, bits(14, 46)).kinds(6), 0b100);
    }

    @Says("UNKNOWN.")
    static void p21_no_such_cell() {
        for (int c : new int[] {LEAST, -1, 4, 7, MOST}) {
            refused("CELL " + c, Edge::busy, x -> x.kinds(c), UNKNOWN);
        }
        refused("without a circuit", Edge::bare, x -> x.kinds(0), UNKNOWN);
    }

    @Says("BULKS, as a set.")
    static void p22_bulks() {
        refused("nothing is changed", Edge::busy, x -> x.bulks(2), 1 << 4);
        due("without READINGS", made("h;d1R").bulks(0), ALL_BULKS);
        due("the last of seven", withReadings(SEVEN, 6, bits(9, 41)).bulks(6), 1 << 9);
    }

    @Says("UNKNOWN.")
    static void p22_no_such_cell() {
        for (int c : new int[] {LEAST, -1, 4, 7, MOST}) {
            refused("CELL " + c, Edge::busy, x -> x.bulks(c), UNKNOWN);
        }
        refused("without a circuit", Edge::bare, x -> x.bulks(0), UNKNOWN);
    }

    // ---- 23 odds

    @Says("ODDS of v (0 .. 6; which 0 the upper, 1 the lower number).")
    static void p23_odds() {
        int[][] told = {{1, 8}, {1, 8}, {5, 8}, {7, 8}, {1, 1}, {1, 1}, {1, 1}};
        for (int v = 0; v <= 6; v++) {
            oddsAre(made(FOUR), v, told[v][0], told[v][1]);
        }
        refused("nothing is changed", Edge::busy, x -> x.odds(2, 0), 5);
    }

    @Says("LOST: STATE: there is no CIRCUIT;")
    static void p23_no_circuit() {
        refused("v 0", Edge::bare, x -> x.odds(0, 0), LOST);
        refused("v 6", Edge::bare, x -> x.odds(6, 1), LOST);
    }

    @Says("OUTSIDE.")
    static void p23_no_such_v_or_which() {
        for (int v : new int[] {LEAST, -1, 7, MOST}) {
            refused("v " + v, Edge::busy, x -> x.odds(v, 0), LOST);
        }
        for (int which : new int[] {LEAST, -1, 2, MOST}) {
            refused("which " + which, Edge::busy, x -> x.odds(0, which), LOST);
        }
    }
}
