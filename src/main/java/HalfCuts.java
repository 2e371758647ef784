import java.util.Arrays;

/** A circuit whose cells stand on the left or on the right, with nets that are cut or not. */
public final class HalfCuts {
    public static final int UNKNOWN = -1, OUTSIDE = -2, STATE = -3, FULL = -4, NONE = -9;
    public static final long LOST = Long.MIN_VALUE;

    private static final int NO_FAULT = 0, NULL = 1, CAST = 2, INDEX = 3, SIZE = 4, STORE = 5;
    private static final int BEFORE_FAULTS = -10, BEFORE_PLACES = -100;
    private static final int SHEETS = 4, MOST_NUMBERS = 60, NOTHING = -1, BYTES = 0, SHORTS = 1, INTS = 2;
    private static final int MOST_CELLS = 7, MOST_NETS = 6, MOST_OF_NET = 4, LEAST_OF_NET = 2;
    private static final int PLAIN = 0, BULKY = 1, DOUBLE = 2;
    private static final int LEAST_BULK = 1, MOST_BULK = 9;
    private static final int HALF = 1056964608, ONE = 1065353216;
    private static final int BY_GAIN = 0, BY_GAIN_THEN_WEIGHT = 1, BY_GAIN_PER_WEIGHT = 2;
    private static final int MOST_PAIRS = 20, BULK_ACTS = 10, PASS_ACT = 20;
    private static final int MOST_PLACES = 9, MOST_READINGS = 8;
    /** What comes from here on asks of one move or one cell, and GAINS are told so much higher. */
    private static final int SINGLES = 10, ABOVE_GAIN = 10;

    private final Sheet[] sheets = new Sheet[SHEETS];
    private final Halves now = new Halves();
    /** What is only tried is tried on this copy, so that no call makes objects. */
    private final Halves trial = new Halves();
    private final Text text = new Text();
    private final Pass latestPass = new Pass();
    private final Rack shelf = new Rack();
    private final Readings seen = new Readings();
    private int traced;
    private int latestFault;

    public HalfCuts() {
        for (int k = 0; k < SHEETS; k++) {
            sheets[k] = new Sheet();
        }
    }

    // ---- 1 the circuit

    public int circuit(int sheet, int lane, int i, int n) {
        if (!isSheet(sheet)) {
            return refused(UNKNOWN);
        }
        if (!isLane(lane)) {
            return refused(OUTSIDE);
        }
        Sheet from = sheets[sheet];
        int found = from.faultAs(lane);
        if (found == NO_FAULT && n < 0) {
            found = SIZE;
        }
        if (found == NO_FAULT && !from.has(i, n)) {
            found = INDEX;
        }
        if (found != NO_FAULT) {
            return failed(found);
        }
        latestFault = NO_FAULT;
        if (!text.isRead(from, i, n, trial)) {
            return BEFORE_PLACES - text.at;
        }
        now.become(trial);
        shelf.stands = false;
        seen.count = 0;
        return now.cells;
    }

    public int ofCell(int c, int what) {
        if (!isCell(c)) {
            return UNKNOWN;
        }
        switch (what) {
            case 0: return now.kind[c];
            case 1: return now.bulk[c];
            case 2: return now.weight[c];
            case 3: return now.sideOf(c);
            case 4: return now.isFixed(c) ? 1 : 0;
            case 5: return now.netsOf(c);
            case 6: return now.gain(c) + ABOVE_GAIN;
            case 7: return now.shareOf(1 << c);
            default: return OUTSIDE;
        }
    }

    public int ofNet(int n, int what) {
        if (n < 0 || n >= now.nets) {
            return UNKNOWN;
        }
        switch (what) {
            case 0: return now.net[n];
            case 1: return now.net[n] & now.right;
            case 2: return isCutBy(now.net[n], now.right) ? 1 : 0;
            default: return OUTSIDE;
        }
    }

    public int ofSide(int side, int what) {
        if (noCircuit()) {
            return STATE;
        }
        if (side < 0 || side > 1) {
            return OUTSIDE;
        }
        int set = side == 0 ? now.left() : now.right;
        switch (what) {
            case 0: return set;
            case 1: return now.weightOf(set);
            case 2: return now.shareOf(set);
            case 3: return now.isWithin(set) ? 1 : 0;
            default: return OUTSIDE;
        }
    }

    public int bulk(int c, int v) {
        if (!isCell(c)) {
            return UNKNOWN;
        }
        if (!isBulk(v)) {
            return OUTSIDE;
        }
        int was = now.bulk[c];
        now.set(c, now.kind[c], v);
        return was;
    }

    public int bound(int f) {
        if (noCircuit()) {
            return STATE;
        }
        if (f < HALF || f > ONE) {
            return OUTSIDE;
        }
        int was = now.bound;
        now.bound = f;
        return was;
    }

    // ---- 2 moves

    public int move(int c) {
        if (!isCell(c)) {
            return UNKNOWN;
        }
        if (now.isFixed(c)) {
            return STATE;
        }
        now.flip(c);
        return now.cuts();
    }

    public int pass(int manner) {
        if (noCircuit()) {
            return STATE;
        }
        if (!isManner(manner)) {
            return OUTSIDE;
        }
        latestPass.run(now, manner);
        return latestPass.kept;
    }

    public int tries(int manner, int what) {
        if (noCircuit()) {
            return STATE;
        }
        if (!isManner(manner) || !isAsked(what, 2)) {
            return OUTSIDE;
        }
        trial.become(now);
        latestPass.run(trial, manner);
        switch (what) {
            case 0: return latestPass.moves;
            case 1: return latestPass.kept;
            case 2: return trial.cuts();
            default: return latestPass.movedAt(what - SINGLES);
        }
    }

    public int settle(int manner) {
        if (noCircuit()) {
            return STATE;
        }
        if (!isManner(manner)) {
            return OUTSIDE;
        }
        int passes = 0;
        boolean settled = false;
        // Each pass but the last leaves fewer nets cut, so there is one more than nets at most.
        while (!settled && passes <= MOST_NETS) {
            int before = now.cuts();
            latestPass.run(now, manner);
            passes++;
            settled = now.cuts() == before;
        }
        return passes;
    }

    public int day(int sheet, int lane, int i, int n, int what) {
        if (!isSheet(sheet)) {
            return refused(UNKNOWN);
        }
        if (!isLane(lane) || n < 0 || n > MOST_PAIRS || !isAsked(what, 4)) {
            return refused(OUTSIDE);
        }
        Sheet from = sheets[sheet];
        int found = from.faultAs(lane);
        if (found == NO_FAULT && !from.has(i, 2 * n)) {
            found = INDEX;
        }
        if (found != NO_FAULT) {
            return failed(found);
        }
        if (noCircuit()) {
            return refused(STATE);
        }
        if (!areActs(from, i, n)) {
            return refused(OUTSIDE);
        }
        latestFault = NO_FAULT;
        int wrong = firstWrong(from, i, n);
        if (what == 1) {
            return wrong;
        }
        return wrong == NONE ? afterDay(what) : BEFORE_PLACES - wrong;
    }

    // ---- 3 cuts, racks

    public int least(int what) {
        if (noCircuit()) {
            return STATE;
        }
        if (what < 0 || what > 1) {
            return OUTSIDE;
        }
        int set = now.leastCut();
        if (set == NONE || what == 1) {
            return set;
        }
        return now.cutsBy(set);
    }

    public int apart(int a, int b) {
        if (!isCell(a) || !isCell(b) || a == b) {
            return UNKNOWN;
        }
        int fewest = MOST_NETS;
        for (int set = 0; set <= now.all(); set++) {
            if ((set >> a & 1) == 0 && (set >> b & 1) == 1) {
                fewest = Math.min(fewest, now.cutsBy(set));
            }
        }
        return fewest;
    }

    public int closest(int what) {
        if (now.cells < 2) {
            return STATE;
        }
        if (what < 0 || what > 2) {
            return OUTSIDE;
        }
        int most = -1;
        int first = 0;
        int second = 0;
        for (int a = 0; a < now.cells; a++) {
            for (int b = a + 1; b < now.cells; b++) {
                int shared = Integer.bitCount(now.netsOf(a) & now.netsOf(b));
                if (shared > most) {
                    most = shared;
                    first = a;
                    second = b;
                }
            }
        }
        if (what == 0) {
            return most;
        }
        return what == 1 ? first : second;
    }

    public int rack(int kind, int n) {
        if (noCircuit()) {
            return refused(STATE);
        }
        if (!isKind(kind) || n > MOST_PLACES) {
            return refused(OUTSIDE);
        }
        if (n < 0) {
            return failed(SIZE);
        }
        latestFault = NO_FAULT;
        shelf.renew(kind, n);
        return n;
    }

    public int stow(int i, int c) {
        if (!isCell(c)) {
            return refused(UNKNOWN);
        }
        int found = shelf.faultAt(i);
        if (found == NO_FAULT && !isOfKind(c, shelf.kind)) {
            found = STORE;
        }
        if (found != NO_FAULT) {
            return failed(found);
        }
        latestFault = NO_FAULT;
        shelf.held[i] = c;
        return 1;
    }

    public int stowed(int i) {
        int found = shelf.faultAt(i);
        if (found != NO_FAULT) {
            return failed(found);
        }
        latestFault = NO_FAULT;
        return shelf.held[i];
    }

    // ---- 4 how heavy

    public int reading(int c, int f) {
        if (!isCell(c)) {
            return UNKNOWN;
        }
        if (f < 0 || f > ONE) {
            return OUTSIDE;
        }
        if (seen.count >= MOST_READINGS) {
            return FULL;
        }
        return seen.add(c, f);
    }

    public int back(int n) {
        if (n < 0 || n > seen.count) {
            return OUTSIDE;
        }
        seen.count -= n;
        return seen.count;
    }

    public int kinds(int c) {
        if (!isCell(c)) {
            return UNKNOWN;
        }
        trial.become(now);
        int set = 0;
        for (int kind = PLAIN; kind <= DOUBLE; kind++) {
            trial.set(c, kind, now.bulk[c]);
            if (seen.areSoBy(trial)) {
                set |= 1 << kind;
            }
        }
        return set;
    }

    public int bulks(int c) {
        if (!isCell(c)) {
            return UNKNOWN;
        }
        trial.become(now);
        int set = 0;
        for (int v = LEAST_BULK; v <= MOST_BULK; v++) {
            trial.set(c, now.kind[c], v);
            if (seen.areSoBy(trial)) {
                set |= 1 << v;
            }
        }
        return set;
    }

    public long odds(int v, int which) {
        if (noCircuit() || v < 0 || v > MOST_NETS || which < 0 || which > 1) {
            return LOST;
        }
        int upper = 0;
        int lower = 0;
        for (int set = 0; set <= now.all(); set++) {
            if (now.keepsFixed(set)) {
                lower++;
                if (now.cutsBy(set) <= v) {
                    upper++;
                }
            }
        }
        // The lower number is a power of two, so 2 is all that both can be divided by.
        for (int step = 0; step < MOST_CELLS && lower > 1 && upper % 2 == 0; step++) {
            upper /= 2;
            lower /= 2;
        }
        return which == 0 ? upper : lower;
    }

    // ---- 5 sheets, parts

    public int sheet(int k, int lane, int n) {
        if (!isSheet(k)) {
            return refused(UNKNOWN);
        }
        if (!isLane(lane) || n > MOST_NUMBERS) {
            return refused(OUTSIDE);
        }
        if (n < 0) {
            return failed(SIZE);
        }
        latestFault = NO_FAULT;
        sheets[k].renew(lane, n);
        return 1;
    }

    public int lose(int k) {
        if (!isSheet(k)) {
            return UNKNOWN;
        }
        int had = sheets[k].lane == NOTHING ? 0 : 1;
        sheets[k].lane = NOTHING;
        return had;
    }

    public int put(int k, int i, int v) {
        if (!isSheet(k)) {
            return refused(UNKNOWN);
        }
        Sheet to = sheets[k];
        if (to.lane == NOTHING) {
            return failed(NULL);
        }
        if (i < 0 || i >= to.size) {
            return failed(INDEX);
        }
        latestFault = NO_FAULT;
        to.row[i] = cutToLane(v, to.lane);
        return 1;
    }

    public long cell(int k, int i, int lane) {
        if (!isSheet(k) || !isLane(lane)) {
            latestFault = NO_FAULT;
            return LOST;
        }
        Sheet from = sheets[k];
        latestFault = from.faultAs(lane);
        if (latestFault == NO_FAULT && (i < 0 || i >= from.size)) {
            latestFault = INDEX;
        }
        return latestFault == NO_FAULT ? from.row[i] : LOST;
    }

    public int copy(int k, int i, int other, int j, int n) {
        if (!isSheet(k) || !isSheet(other)) {
            return refused(UNKNOWN);
        }
        Sheet from = sheets[k];
        Sheet to = sheets[other];
        if (from.lane == NOTHING || to.lane == NOTHING) {
            return failed(NULL);
        }
        if (from.lane != to.lane) {
            return failed(CAST);
        }
        if (!from.has(i, n) || !to.has(j, n)) {
            return failed(INDEX);
        }
        latestFault = NO_FAULT;
        System.arraycopy(from.row, i, to.row, j, n);
        return n;
    }

    public int tell(int c) {
        if (!isCell(c)) {
            return UNKNOWN;
        }
        switch (now.kind[c]) {
            case DOUBLE: return doubleTold(c);
            case BULKY: return bulkyTold(c);
            default: return plainTold(c);
        }
    }

    public int probe(int c) {
        if (!isCell(c)) {
            return UNKNOWN;
        }
        if (now.kind[c] == DOUBLE) {
            leaveInTrace(5);
            return 20;
        }
        leaveInTrace(4);
        return Integer.bitCount(now.netsOf(c));
    }

    public int as(int c, int kind) {
        if (!isCell(c)) {
            return refused(UNKNOWN);
        }
        if (!isKind(kind)) {
            return refused(OUTSIDE);
        }
        if (!isOfKind(c, kind)) {
            return failed(CAST);
        }
        latestFault = NO_FAULT;
        return 1;
    }

    public int trace() {
        return traced;
    }

    public int fault() {
        return latestFault;
    }

    public int many(int what) {
        switch (what) {
            case 0: return now.cells;
            case 1: return now.nets;
            case 2: return now.cuts();
            case 3: return shelf.stands ? shelf.places : 0;
            case 4: return seen.count;
            default: return OUTSIDE;
        }
    }

    // ---- refusals and faults

    /** Only for calls that name FAULTS: a refusal there makes fault() 0. */
    private int refused(int refusal) {
        latestFault = NO_FAULT;
        return refusal;
    }

    private int failed(int found) {
        latestFault = found;
        return BEFORE_FAULTS - found;
    }

    private boolean noCircuit() {
        return now.cells == 0;
    }

    private boolean isCell(int c) {
        return c >= 0 && c < now.cells;
    }

    /** The kinds stand in a row in which each is also all those ahead of it. */
    private boolean isOfKind(int c, int kind) {
        return now.kind[c] >= kind;
    }

    private static boolean isSheet(int k) {
        return k >= 0 && k < SHEETS;
    }

    private static boolean isLane(int lane) {
        return lane >= BYTES && lane <= INTS;
    }

    private static boolean isKind(int kind) {
        return kind >= PLAIN && kind <= DOUBLE;
    }

    private static boolean isBulk(int v) {
        return v >= LEAST_BULK && v <= MOST_BULK;
    }

    private static boolean isManner(int manner) {
        return manner >= BY_GAIN && manner <= BY_GAIN_PER_WEIGHT;
    }

    private static boolean isAsked(int what, int last) {
        return what >= 0 && what <= last || what >= SINGLES && what < SINGLES + MOST_CELLS;
    }

    private static int cutToLane(int v, int lane) {
        switch (lane) {
            case BYTES: return (byte) v;
            case SHORTS: return (short) v;
            default: return v;
        }
    }

    private static boolean isCutBy(int net, int right) {
        int part = net & right;
        return part != 0 && part != net;
    }

    /** The bits of the single float nearest to upper / lower, for 0 <= upper <= lower. */
    private static int floatBits(int upper, int lower) {
        if (upper <= 0 || lower <= 0) {
            return 0;
        }
        long scaled = upper;
        int exponent = 127;
        for (int step = 0; step < 31 && scaled < lower; step++) {
            scaled *= 2;
            exponent--;
        }
        scaled <<= 23;
        long digits = scaled / lower;
        long rest = 2 * (scaled % lower);
        if (rest > lower || rest == lower && digits % 2 == 1) {
            digits++;
        }
        // The digits' own leading bit adds 1 to the exponent, as does a carry out of them.
        return (int) (((long) (exponent - 1) << 23) + digits);
    }

    // ---- days

    private static boolean areActs(Sheet from, int i, int n) {
        for (int pair = 0; pair < n; pair++) {
            if (!isAct(from.row[i + 2 * pair], from.row[i + 2 * pair + 1])) {
                return false;
            }
        }
        return true;
    }

    private static boolean isAct(int first, int second) {
        if (second == PASS_ACT) {
            return isManner(first);
        }
        if (second >= BULK_ACTS && second < BULK_ACTS + MOST_CELLS) {
            return isBulk(first);
        }
        return second >= 0 && second < MOST_CELLS && first == 0;
    }

    /** Plays the day on the trial, which stays as it is after the last act that could be. */
    private int firstWrong(Sheet from, int i, int n) {
        trial.become(now);
        for (int pair = 0; pair < n; pair++) {
            int first = from.row[i + 2 * pair];
            int second = from.row[i + 2 * pair + 1];
            if (second == PASS_ACT) {
                latestPass.run(trial, first);
            } else if (!isDone(first, second)) {
                return pair;
            }
        }
        return NONE;
    }

    private boolean isDone(int first, int second) {
        boolean moves = second < BULK_ACTS;
        int c = moves ? second : second - BULK_ACTS;
        if (c >= trial.cells || moves && trial.isFixed(c)) {
            return false;
        }
        if (moves) {
            trial.flip(c);
        } else {
            trial.set(c, trial.kind[c], first);
        }
        return true;
    }

    private int afterDay(int what) {
        switch (what) {
            case 0: return trial.cuts();
            case 2: return trial.right;
            case 3: return trial.weightOf(trial.left());
            case 4: return trial.shareOf(trial.left());
            default: return isCell(what - SINGLES) ? trial.gain(what - SINGLES) + ABOVE_GAIN : NONE;
        }
    }

    // ---- telling

    private void leaveInTrace(int number) {
        traced = 31 * traced + number;
    }

    private int plainTold(int c) {
        leaveInTrace(1);
        return now.bulk[c];
    }

    private int bulkyTold(int c) {
        leaveInTrace(2);
        return plainTold(c) + 100;
    }

    private int doubleTold(int c) {
        leaveInTrace(3);
        int asBulky = bulkyTold(c);
        return asBulky + plainTold(c);
    }

    /** Cells, nets and sides; sets of cells and of nets are bits. */
    private static final class Halves {
        int cells;
        int nets;
        int right;
        int fixed;
        int bound;
        final int[] kind = new int[MOST_CELLS];
        final int[] bulk = new int[MOST_CELLS];
        final int[] weight = new int[MOST_CELLS];
        final int[] net = new int[MOST_NETS];

        void clear() {
            cells = 0;
            nets = 0;
            right = 0;
            fixed = 0;
            bound = ONE;
        }

        void become(Halves other) {
            cells = other.cells;
            nets = other.nets;
            right = other.right;
            fixed = other.fixed;
            bound = other.bound;
            System.arraycopy(other.kind, 0, kind, 0, MOST_CELLS);
            System.arraycopy(other.bulk, 0, bulk, 0, MOST_CELLS);
            System.arraycopy(other.weight, 0, weight, 0, MOST_CELLS);
            System.arraycopy(other.net, 0, net, 0, MOST_NETS);
        }

        int all() {
            return (1 << cells) - 1;
        }

        int left() {
            return all() & ~right;
        }

        int sideOf(int c) {
            return right >> c & 1;
        }

        boolean isFixed(int c) {
            return (fixed >> c & 1) == 1;
        }

        void flip(int c) {
            right ^= 1 << c;
        }

        /** Kind and bulk are set here alone, so that the weight always fits them. */
        void set(int c, int newKind, int newBulk) {
            kind[c] = newKind;
            bulk[c] = newBulk;
            switch (newKind) {
                case BULKY:
                    weight[c] = newBulk + 1;
                    break;
                case DOUBLE:
                    weight[c] = 2 * newBulk;
                    break;
                default:
                    weight[c] = newBulk;
                    break;
            }
        }

        int weightOf(int set) {
            int sum = 0;
            for (int c = 0; c < cells; c++) {
                if ((set >> c & 1) == 1) {
                    sum += weight[c];
                }
            }
            return sum;
        }

        int shareOf(int set) {
            return floatBits(weightOf(set), weightOf(all()));
        }

        /** Bits of floats from 0 on are in the order of the floats. */
        boolean isWithin(int set) {
            return shareOf(set) <= bound;
        }

        int netsOf(int c) {
            int set = 0;
            for (int n = 0; n < nets; n++) {
                if ((net[n] >> c & 1) == 1) {
                    set |= 1 << n;
                }
            }
            return set;
        }

        int cutsBy(int rightSet) {
            int count = 0;
            for (int n = 0; n < nets; n++) {
                if (isCutBy(net[n], rightSet)) {
                    count++;
                }
            }
            return count;
        }

        int cuts() {
            return cutsBy(right);
        }

        int gain(int c) {
            return cutsBy(right) - cutsBy(right ^ 1 << c);
        }

        boolean keepsFixed(int rightSet) {
            return (rightSet & fixed) == (right & fixed);
        }

        boolean isWithinAfterMove(int c) {
            int goesTo = sideOf(c) == 0 ? right : left();
            return shareOf(goesTo | 1 << c) <= bound;
        }

        /** The set on the right of the LEAST, or NONE. */
        int leastCut() {
            int best = NONE;
            int fewest = MOST_NETS + 1;
            for (int set = 0; set <= all(); set++) {
                if (keepsFixed(set) && cutsBy(set) < fewest && isWithin(set) && isWithin(all() & ~set)) {
                    best = set;
                    fewest = cutsBy(set);
                }
            }
            return best;
        }
    }

    /** One PASS, and what is told of it. */
    private static final class Pass {
        final int[] moved = new int[MOST_CELLS];
        int moves;
        int kept;

        void run(Halves halves, int manner) {
            moves = 0;
            kept = 0;
            int held = halves.fixed;
            int fewest = halves.cuts();
            int bestRight = halves.right;
            for (int step = 0; step < halves.cells; step++) {
                int c = bestCell(halves, manner, held);
                if (c == NONE) {
                    break;
                }
                halves.flip(c);
                held |= 1 << c;
                moved[moves] = c;
                moves++;
                if (halves.cuts() < fewest) {
                    fewest = halves.cuts();
                    bestRight = halves.right;
                    kept = moves;
                }
            }
            halves.right = bestRight;
        }

        int movedAt(int k) {
            return k >= 0 && k < moves ? moved[k] : NONE;
        }

        private static int bestCell(Halves halves, int manner, int held) {
            int best = NONE;
            int bestGain = 0;
            for (int c = 0; c < halves.cells; c++) {
                if ((held >> c & 1) == 1 || !halves.isWithinAfterMove(c)) {
                    continue;
                }
                int gain = halves.gain(c);
                if (best == NONE || isBetter(manner, gain, halves.weight[c], bestGain, halves.weight[best])) {
                    best = c;
                    bestGain = gain;
                }
            }
            return best;
        }

        private static boolean isBetter(int manner, int gain, int weight, int thanGain, int thanWeight) {
            if (manner == BY_GAIN_PER_WEIGHT) {
                return gain * thanWeight > thanGain * weight;
            }
            if (gain != thanGain) {
                return gain > thanGain;
            }
            return manner == BY_GAIN_THEN_WEIGHT && weight > thanWeight;
        }
    }

    /** Reads a TEXT code by code; where it stops is the FIRST FAULT. */
    private static final class Text {
        private final int[] codes = new int[MOST_NUMBERS];
        private int count;
        int at;

        boolean isRead(Sheet from, int i, int n, Halves into) {
            System.arraycopy(from.row, i, codes, 0, n);
            count = n;
            at = 0;
            into.clear();
            if (!takes('h') || !takes(';') || !readsCell(into)) {
                return false;
            }
            for (int c = 1; c < MOST_CELLS && takes(';'); c++) {
                if (!readsCell(into)) {
                    return false;
                }
            }
            for (int k = 0; k < MOST_NETS && takes(','); k++) {
                if (!readsNet(into)) {
                    return false;
                }
            }
            return at == count;
        }

        private boolean isNext(int code) {
            return at < count && codes[at] == code;
        }

        private boolean takes(int code) {
            if (!isNext(code)) {
                return false;
            }
            at++;
            return true;
        }

        private boolean readsCell(Halves into) {
            int c = into.cells;
            int kind = takes('p') ? PLAIN : takes('b') ? BULKY : takes('d') ? DOUBLE : NONE;
            if (kind == NONE) {
                return false;
            }
            int bulk = digit(LEAST_BULK, MOST_BULK);
            if (bulk == NONE || !readsSide(into, c)) {
                return false;
            }
            into.set(c, kind, bulk);
            into.cells = c + 1;
            return true;
        }

        private boolean readsSide(Halves into, int c) {
            boolean onRight = isNext('r') || isNext('R');
            boolean stays = isNext('L') || isNext('R');
            if (!onRight && !stays && !isNext('l')) {
                return false;
            }
            at++;
            into.right |= onRight ? 1 << c : 0;
            into.fixed |= stays ? 1 << c : 0;
            return true;
        }

        private boolean readsNet(Halves into) {
            int set = 0;
            for (int k = 0; k < MOST_OF_NET; k++) {
                int c = digit(0, into.cells - 1);
                if (c == NONE) {
                    break;
                }
                if ((set >> c & 1) == 1) {
                    at--;
                    break;
                }
                set |= 1 << c;
            }
            if (Integer.bitCount(set) < LEAST_OF_NET) {
                return false;
            }
            into.net[into.nets] = set;
            into.nets++;
            return true;
        }

        /** The digit that is next, taken, if it is from low to high; or NONE. */
        private int digit(int low, int high) {
            if (at >= count) {
                return NONE;
            }
            int code = codes[at];
            if (code < '0' + low || code > '0' + high) {
                return NONE;
            }
            at++;
            return code - '0';
        }
    }

    /** Nothing, or a row of numbers of a lane; the row is kept for the next use. */
    private static final class Sheet {
        int lane = NOTHING;
        int size;
        final int[] row = new int[MOST_NUMBERS];

        void renew(int newLane, int newSize) {
            lane = newLane;
            size = newSize;
            Arrays.fill(row, 0);
        }

        int faultAs(int wanted) {
            if (lane == NOTHING) {
                return NULL;
            }
            return lane == wanted ? NO_FAULT : CAST;
        }

        boolean has(int i, int n) {
            return i >= 0 && i <= size && n >= 0 && n <= size - i;
        }
    }

    /** Places that take cells of one kind alone. */
    private static final class Rack {
        boolean stands;
        int kind;
        int places;
        final int[] held = new int[MOST_PLACES];

        void renew(int newKind, int newPlaces) {
            stands = true;
            kind = newKind;
            places = newPlaces;
            Arrays.fill(held, NONE);
        }

        int faultAt(int i) {
            if (!stands) {
                return NULL;
            }
            return i >= 0 && i < places ? NO_FAULT : INDEX;
        }
    }

    /** Shares of weight that were read, as bits of floats. */
    private static final class Readings {
        int count;
        final int[] about = new int[MOST_READINGS];
        final int[] bits = new int[MOST_READINGS];

        int add(int c, int f) {
            int number = count;
            about[number] = c;
            bits[number] = f;
            count++;
            return number;
        }

        boolean areSoBy(Halves halves) {
            for (int k = 0; k < count; k++) {
                if (halves.shareOf(1 << about[k]) != bits[k]) {
                    return false;
                }
            }
            return true;
        }
    }
}
