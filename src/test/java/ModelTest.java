import java.util.ArrayList;
import java.util.List;
import java.util.Random;
import java.util.TreeSet;

/**
 * Random runs of calls, each answered also by a model that is written in another way: real arrays whose
 * own exceptions are the FAULTS, real classes for the kinds, real floats, sets in place of bits.
 */
public final class ModelTest {
    private static final int RUNS = 3000, CALLS = 512;
    private static final int UNKNOWN = -1, OUTSIDE = -2, STATE = -3, FULL = -4, NONE = -9;

    // ---- the model

    private static int trace;

    interface Probed {
        int nets();

        default int probe() {
            trace = 31 * trace + 4;
            return nets();
        }
    }

    static class Plain implements Probed {
        int bulk, nets;
        boolean right, fixed;

        int weight() {
            return bulk;
        }

        int tell() {
            return plainTell();
        }

        final int plainTell() {
            trace = 31 * trace + 1;
            return bulk;
        }

        int kind() {
            return 0;
        }

        @Override
        public int nets() {
            return nets;
        }
    }

    static class Bulky extends Plain {
        @Override
        int weight() {
            return super.weight() + 1;
        }

        @Override
        int tell() {
            trace = 31 * trace + 2;
            return super.tell() + 100;
        }

        @Override
        int kind() {
            return 1;
        }
    }

    static final class Double extends Bulky {
        @Override
        int weight() {
            return 2 * bulk;
        }

        @Override
        int tell() {
            trace = 31 * trace + 3;
            int first = super.tell();
            return first + plainTell();
        }

        @Override
        int kind() {
            return 2;
        }

        @Override
        public int probe() {
            trace = 31 * trace + 5;
            return 20;
        }
    }

    /** What may be copied to be tried: cells with sides and bulks, nets, the bound. */
    static final class Board {
        List<Plain> cells = new ArrayList<>();
        List<TreeSet<Integer>> nets = new ArrayList<>();
        float bound = 1f;

        Board twin() {
            Board b = new Board();
            for (Plain c : cells) {
                b.cells.add(twinAs(c, c.kind()));
            }
            b.nets = nets;
            b.bound = bound;
            return b;
        }

        static Plain twinAs(Plain c, int kind) {
            Plain t = kind == 0 ? new Plain() : kind == 1 ? new Bulky() : new Double();
            t.bulk = c.bulk;
            t.nets = c.nets;
            t.right = c.right;
            t.fixed = c.fixed;
            return t;
        }

        boolean cut(TreeSet<Integer> net) {
            boolean left = false, right = false;
            for (int c : net) {
                left |= !cells.get(c).right;
                right |= cells.get(c).right;
            }
            return left && right;
        }

        int cuts() {
            int n = 0;
            for (TreeSet<Integer> net : nets) {
                n += cut(net) ? 1 : 0;
            }
            return n;
        }

        int gain(int c) {
            int no = 0, now = 0;
            for (TreeSet<Integer> net : nets) {
                boolean before = cut(net);
                cells.get(c).right ^= true;
                boolean after = cut(net);
                cells.get(c).right ^= true;
                no += before && !after ? 1 : 0;
                now += !before && after ? 1 : 0;
            }
            return no - now;
        }

        int weight(boolean right) {
            int w = 0;
            for (Plain c : cells) {
                w += c.right == right ? c.weight() : 0;
            }
            return w;
        }

        float share(boolean right) {
            return (float) weight(right) / (float) (weight(false) + weight(true));
        }

        float shareOf(int c) {
            return (float) cells.get(c).weight() / (float) (weight(false) + weight(true));
        }

        int rightSet() {
            int s = 0;
            for (int c = 0; c < cells.size(); c++) {
                s += cells.get(c).right ? 1 << c : 0;
            }
            return s;
        }

        boolean mayGo(int c) {
            Plain cell = cells.get(c);
            if (cell.fixed) {
                return false;
            }
            cell.right ^= true;
            boolean within = share(cell.right) <= bound;
            cell.right ^= true;
            return within;
        }

        /** The moves of a pass; the last number is how many stay. */
        List<Integer> pass(int manner) {
            List<Integer> moves = new ArrayList<>();
            List<Integer> cuts = new ArrayList<>();
            cuts.add(cuts());
            while (true) {
                List<Integer> may = new ArrayList<>();
                for (int c = 0; c < cells.size(); c++) {
                    if (!moves.contains(c) && mayGo(c)) {
                        may.add(c);
                    }
                }
                if (may.isEmpty()) {
                    break;
                }
                may.sort((a, b) -> {
                    int byGain = Integer.compare(gain(b), gain(a));
                    int wa = cells.get(a).weight(), wb = cells.get(b).weight();
                    int order = manner == 2 ? Integer.compare(gain(b) * wa, gain(a) * wb)
                        : manner == 1 && byGain == 0 ? Integer.compare(wb, wa) : byGain;
                    return order != 0 ? order : Integer.compare(a, b);
                });
                int c = may.get(0);
                cells.get(c).right ^= true;
                moves.add(c);
                cuts.add(cuts());
            }
            int stay = cuts.indexOf(cuts.stream().min(Integer::compare).get());
            for (int k = stay; k < moves.size(); k++) {
                cells.get(moves.get(k)).right ^= true;
            }
            moves.add(stay);
            return moves;
        }
    }

    private Board board = new Board();
    private final Object[] sheets = new Object[4];
    private Plain[] rack;
    private final List<int[]> readings = new ArrayList<>();
    private int fault;

    private boolean cellIs(int c) {
        return c >= 0 && c < board.cells.size();
    }

    private static int lengthOf(Object row) {
        return java.lang.reflect.Array.getLength(row);
    }

    /** A row taken as one of a lane, as the machine would: a real cast. */
    private static Object as(Object row, int lane) {
        return lane == 0 ? (Object) (byte[]) row : lane == 1 ? (Object) (short[]) row : (Object) (int[]) row;
    }

    private static int faultOf(RuntimeException e) {
        return e instanceof NullPointerException ? 1 : e instanceof ClassCastException ? 2
            : e instanceof IndexOutOfBoundsException ? 3 : e instanceof NegativeArraySizeException ? 4
            : e instanceof ArrayStoreException ? 5 : 99;
    }

    private static int[] part(Object row, int i, int n) {
        int length = lengthOf(row);
        java.util.Objects.checkFromIndexSize(i, n, length);
        int[] part = new int[n];
        for (int k = 0; k < n; k++) {
            part[k] = java.lang.reflect.Array.getInt(row, i + k);
        }
        return part;
    }

    static boolean goesOn(int[] codes, int length, boolean whole) {
        StringBuilder b = new StringBuilder();
        for (int k = 0; k < length; k++) {
            b.append(codes[k] >= 0 && codes[k] < 128 ? (char) codes[k] : '?');
        }
        String text = b.toString();
        String[] parts = text.split(",", -1);
        String cell = ";[pbd][1-9][lrLR]";
        boolean cellsWhole = parts[0].matches("h(" + cell + "){1,7}");
        if (parts.length == 1) {
            boolean begun = parts[0].isEmpty() || parts[0].matches("h(" + cell + "){0,6}(;([pbd]([1-9])?)?)?");
            return cellsWhole || !whole && begun;
        }
        if (!cellsWhole || parts.length > 7) {
            return false;
        }
        int cells = parts[0].length() / 4;
        for (int k = 1; k < parts.length; k++) {
            int least = whole || k < parts.length - 1 ? 2 : 0;
            if (parts[k].length() < least || parts[k].length() > 4
                    || parts[k].chars().distinct().count() != parts[k].length()
                    || !parts[k].chars().allMatch(d -> d >= '0' && d < '0' + cells)) {
                return false;
            }
        }
        return true;
    }

    private void build(int[] codes) {
        board = new Board();
        rack = null;
        readings.clear();
        StringBuilder b = new StringBuilder();
        for (int code : codes) {
            b.append((char) code);
        }
        String[] parts = b.toString().split(",");
        for (int k = 1; k < parts[0].length(); k += 4) {
            Plain c = new Plain();
            c.bulk = parts[0].charAt(k + 2) - '0';
            char side = parts[0].charAt(k + 3);
            c.right = side == 'r' || side == 'R';
            c.fixed = side < 'a';
            board.cells.add(Board.twinAs(c, "pbd".indexOf(parts[0].charAt(k + 1))));
        }
        for (int k = 1; k < parts.length; k++) {
            TreeSet<Integer> net = new TreeSet<>();
            for (char d : parts[k].toCharArray()) {
                net.add(d - '0');
                board.cells.get(d - '0').nets++;
            }
            board.nets.add(net);
        }
    }

    private int circuit(int sheet, int lane, int i, int n) {
        fault = 0;
        if (sheet < 0 || sheet > 3) return UNKNOWN;
        if (lane < 0 || lane > 2) return OUTSIDE;
        int[] codes;
        try {
            Object row = as(sheets[sheet], lane);
            lengthOf(row);
            int[] made = new int[n < 0 ? n : 0];
            codes = part(row, i, n + made.length);
        } catch (RuntimeException e) {
            fault = faultOf(e);
            return -10 - fault;
        }
        for (int k = 1; k <= n; k++) {
            if (!goesOn(codes, k, false)) return -100 - (k - 1);
        }
        if (!goesOn(codes, n, true)) return -100 - n;
        build(codes);
        return board.cells.size();
    }

    private int ofCell(int c, int what) {
        if (!cellIs(c)) return UNKNOWN;
        Plain p = board.cells.get(c);
        switch (what) {
            case 0: return p.kind();
            case 1: return p.bulk;
            case 2: return p.weight();
            case 3: return p.right ? 1 : 0;
            case 4: return p.fixed ? 1 : 0;
            case 5: {
                int set = 0;
                for (int n = 0; n < board.nets.size(); n++) set += board.nets.get(n).contains(c) ? 1 << n : 0;
                return set;
            }
            case 6: return board.gain(c) + 10;
            case 7: return Float.floatToIntBits(board.shareOf(c));
            default: return OUTSIDE;
        }
    }

    private int ofNet(int n, int what) {
        if (n < 0 || n >= board.nets.size()) return UNKNOWN;
        int all = 0, right = 0;
        for (int c : board.nets.get(n)) {
            all += 1 << c;
            right += board.cells.get(c).right ? 1 << c : 0;
        }
        return what == 0 ? all : what == 1 ? right : what == 2 ? (board.cut(board.nets.get(n)) ? 1 : 0) : OUTSIDE;
    }

    private int ofSide(int side, int what) {
        if (board.cells.isEmpty()) return STATE;
        if (side != 0 && side != 1) return OUTSIDE;
        boolean right = side == 1;
        int all = (1 << board.cells.size()) - 1;
        switch (what) {
            case 0: return right ? board.rightSet() : all - board.rightSet();
            case 1: return board.weight(right);
            case 2: return Float.floatToIntBits(board.share(right));
            case 3: return board.share(right) <= board.bound ? 1 : 0;
            default: return OUTSIDE;
        }
    }

    private int bulk(int c, int v) {
        if (!cellIs(c)) return UNKNOWN;
        if (v < 1 || v > 9) return OUTSIDE;
        int was = board.cells.get(c).bulk;
        board.cells.get(c).bulk = v;
        return was;
    }

    private int bound(int f) {
        if (board.cells.isEmpty()) return STATE;
        float to = Float.intBitsToFloat(f);
        if (!(to >= 0.5f && to <= 1f)) return OUTSIDE;
        int was = Float.floatToIntBits(board.bound);
        board.bound = to;
        return was;
    }

    private int move(int c) {
        if (!cellIs(c)) return UNKNOWN;
        if (board.cells.get(c).fixed) return STATE;
        board.cells.get(c).right ^= true;
        return board.cuts();
    }

    private int pass(int manner) {
        if (board.cells.isEmpty()) return STATE;
        if (manner < 0 || manner > 2) return OUTSIDE;
        List<Integer> moves = board.pass(manner);
        return moves.get(moves.size() - 1);
    }

    private int tries(int manner, int what) {
        if (board.cells.isEmpty()) return STATE;
        if (manner < 0 || manner > 2 || what < 0 || what > 2 && what < 10 || what > 16) return OUTSIDE;
        Board twin = board.twin();
        List<Integer> moves = twin.pass(manner);
        int stay = moves.remove(moves.size() - 1);
        return what == 0 ? moves.size() : what == 1 ? stay : what == 2 ? twin.cuts()
            : what - 10 < moves.size() ? moves.get(what - 10) : NONE;
    }

    private int settle(int manner) {
        if (board.cells.isEmpty()) return STATE;
        if (manner < 0 || manner > 2) return OUTSIDE;
        int passes = 0, before;
        do {
            before = board.cuts();
            board.pass(manner);
            passes++;
        } while (board.cuts() != before);
        return passes;
    }

    private int day(int sheet, int lane, int i, int n, int what) {
        fault = 0;
        if (sheet < 0 || sheet > 3) return UNKNOWN;
        if (lane < 0 || lane > 2 || n < 0 || n > 20 || what < 0 || what > 4 && what < 10 || what > 16) return OUTSIDE;
        int[] acts;
        try {
            acts = part(as(sheets[sheet], lane), i, 2 * n);
        } catch (RuntimeException e) {
            fault = faultOf(e);
            return -10 - fault;
        }
        if (board.cells.isEmpty()) return STATE;
        for (int k = 0; k < 2 * n; k += 2) {
            int a = acts[k], b = acts[k + 1];
            boolean good = b >= 0 && b <= 6 ? a == 0 : b >= 10 && b <= 16 ? a >= 1 && a <= 9 : b == 20 && a >= 0 && a <= 2;
            if (!good) return OUTSIDE;
        }
        Board twin = board.twin();
        int wrong = NONE;
        for (int k = 0; k < n && wrong == NONE; k++) {
            int a = acts[2 * k], b = acts[2 * k + 1];
            if (b == 20) {
                twin.pass(a);
            } else if (!cellIs(b % 10) || b < 10 && twin.cells.get(b).fixed) {
                wrong = k;
            } else if (b < 10) {
                twin.cells.get(b).right ^= true;
            } else {
                twin.cells.get(b % 10).bulk = a;
            }
        }
        if (what == 1) return wrong;
        if (wrong != NONE) return -100 - wrong;
        switch (what) {
            case 0: return twin.cuts();
            case 2: return twin.rightSet();
            case 3: return twin.weight(false);
            case 4: return Float.floatToIntBits(twin.share(false));
            default: return cellIs(what - 10) ? twin.gain(what - 10) + 10 : NONE;
        }
    }

    /** All sides that cells may have; fixed ones stay, if they are to. */
    private List<Board> allSides(boolean fixedStay) {
        List<Board> all = new ArrayList<>();
        for (int set = 0; set < 1 << board.cells.size(); set++) {
            Board twin = board.twin();
            boolean so = true;
            for (int c = 0; c < twin.cells.size(); c++) {
                boolean right = (set >> c) % 2 == 1;
                so &= !fixedStay || !twin.cells.get(c).fixed || twin.cells.get(c).right == right;
                twin.cells.get(c).right = right;
            }
            if (so) all.add(twin);
        }
        return all;
    }

    private int least(int what) {
        if (board.cells.isEmpty()) return STATE;
        if (what != 0 && what != 1) return OUTSIDE;
        Board best = null;
        for (Board b : allSides(true)) {
            if (b.share(false) <= b.bound && b.share(true) <= b.bound && (best == null || b.cuts() < best.cuts())) best = b;
        }
        return best == null ? NONE : what == 0 ? best.cuts() : best.rightSet();
    }

    private int apart(int a, int b) {
        if (!cellIs(a) || !cellIs(b) || a == b) return UNKNOWN;
        return allSides(false).stream().filter(x -> !x.cells.get(a).right && x.cells.get(b).right)
            .mapToInt(Board::cuts).min().getAsInt();
    }

    private int closest(int what) {
        if (board.cells.size() < 2) return STATE;
        if (what < 0 || what > 2) return OUTSIDE;
        int[] best = null;
        for (int a = 0; a < board.cells.size(); a++) {
            for (int b = a + 1; b < board.cells.size(); b++) {
                int shared = 0;
                for (TreeSet<Integer> net : board.nets) shared += net.contains(a) && net.contains(b) ? 1 : 0;
                if (best == null || shared > best[0]) best = new int[] {shared, a, b};
            }
        }
        return best[what];
    }

    private int rack(int kind, int n) {
        fault = 0;
        if (board.cells.isEmpty()) return STATE;
        if (kind < 0 || kind > 2 || n > 9) return OUTSIDE;
        try {
            rack = kind == 0 ? new Plain[n] : kind == 1 ? new Bulky[n] : new Double[n];
        } catch (RuntimeException e) {
            fault = faultOf(e);
            return -10 - fault;
        }
        return n;
    }

    private int stow(int i, int c) {
        fault = 0;
        if (!cellIs(c)) return UNKNOWN;
        try {
            rack[i] = board.cells.get(c);
        } catch (RuntimeException e) {
            fault = faultOf(e);
            return -10 - fault;
        }
        return 1;
    }

    private int stowed(int i) {
        fault = 0;
        try {
            return rack[i] == null ? NONE : board.cells.indexOf(rack[i]);
        } catch (RuntimeException e) {
            fault = faultOf(e);
            return -10 - fault;
        }
    }

    private int reading(int c, int f) {
        if (!cellIs(c)) return UNKNOWN;
        float x = Float.intBitsToFloat(f);
        if (f < 0 || !(x >= 0f && x <= 1f)) return OUTSIDE;
        if (readings.size() == 8) return FULL;
        readings.add(new int[] {c, f});
        return readings.size() - 1;
    }

    private int back(int n) {
        if (n < 0 || n > readings.size()) return OUTSIDE;
        for (int k = 0; k < n; k++) readings.remove(readings.size() - 1);
        return readings.size();
    }

    private boolean allSo(Board b) {
        return readings.stream().allMatch(r -> Float.floatToIntBits(b.shareOf(r[0])) == r[1]);
    }

    private int kinds(int c) {
        if (!cellIs(c)) return UNKNOWN;
        int set = 0;
        for (int kind = 0; kind < 3; kind++) {
            Board twin = board.twin();
            twin.cells.set(c, Board.twinAs(board.cells.get(c), kind));
            set += allSo(twin) ? 1 << kind : 0;
        }
        return set;
    }

    private int bulks(int c) {
        if (!cellIs(c)) return UNKNOWN;
        int set = 0;
        for (int v = 1; v <= 9; v++) {
            Board twin = board.twin();
            twin.cells.get(c).bulk = v;
            set += allSo(twin) ? 1 << v : 0;
        }
        return set;
    }

    private long odds(int v, int which) {
        if (board.cells.isEmpty() || v < 0 || v > 6 || which < 0 || which > 1) return Long.MIN_VALUE;
        List<Board> all = allSides(true);
        long upper = all.stream().filter(b -> b.cuts() <= v).count(), lower = all.size();
        long both = java.math.BigInteger.valueOf(upper).gcd(java.math.BigInteger.valueOf(lower)).longValue();
        return which == 0 ? upper / both : lower / both;
    }

    private int sheet(int k, int lane, int n) {
        fault = 0;
        if (k < 0 || k > 3) return UNKNOWN;
        if (lane < 0 || lane > 2 || n > 60) return OUTSIDE;
        try {
            sheets[k] = lane == 0 ? new byte[n] : lane == 1 ? (Object) new short[n] : new int[n];
        } catch (RuntimeException e) {
            fault = faultOf(e);
            return -10 - fault;
        }
        return 1;
    }

    private int lose(int k) {
        if (k < 0 || k > 3) return UNKNOWN;
        int had = sheets[k] == null ? 0 : 1;
        sheets[k] = null;
        return had;
    }

    private int put(int k, int i, int v) {
        fault = 0;
        if (k < 0 || k > 3) return UNKNOWN;
        try {
            Object row = sheets[k];
            if (row instanceof byte[]) ((byte[]) row)[i] = (byte) v;
            else if (row instanceof short[]) ((short[]) row)[i] = (short) v;
            else ((int[]) row)[i] = v;
        } catch (RuntimeException e) {
            fault = faultOf(e);
            return -10 - fault;
        }
        return 1;
    }

    private long cell(int k, int i, int lane) {
        fault = 0;
        if (k < 0 || k > 3 || lane < 0 || lane > 2) return Long.MIN_VALUE;
        try {
            return lane == 0 ? ((byte[]) sheets[k])[i] : lane == 1 ? ((short[]) sheets[k])[i] : ((int[]) sheets[k])[i];
        } catch (RuntimeException e) {
            fault = faultOf(e);
            return Long.MIN_VALUE;
        }
    }

    private int copy(int k, int i, int other, int j, int n) {
        fault = 0;
        if (k < 0 || k > 3 || other < 0 || other > 3) return UNKNOWN;
        try {
            if (sheets[k] != null && sheets[other] != null && sheets[k].getClass() != sheets[other].getClass()) {
                throw new ClassCastException();
            }
            System.arraycopy(sheets[k], i, sheets[other], j, n);
        } catch (RuntimeException e) {
            fault = faultOf(e);
            return -10 - fault;
        }
        return n;
    }

    private int as(int c, int kind) {
        fault = 0;
        if (!cellIs(c)) return UNKNOWN;
        if (kind < 0 || kind > 2) return OUTSIDE;
        try {
            Plain p = board.cells.get(c);
            Plain taken = kind == 0 ? p : kind == 1 ? (Bulky) p : (Double) p;
            return taken == null ? 0 : 1;
        } catch (RuntimeException e) {
            fault = faultOf(e);
            return -10 - fault;
        }
    }

    private int many(int what) {
        switch (what) {
            case 0: return board.cells.size();
            case 1: return board.nets.size();
            case 2: return board.cuts();
            case 3: return rack == null ? 0 : rack.length;
            case 4: return readings.size();
            default: return OUTSIDE;
        }
    }

    // ---- the runs

    private final Random random;
    private final HalfCuts real = new HalfCuts();
    private final List<String> calls = new ArrayList<>();
    private static int wrong = 0;

    private ModelTest(int seed) {
        random = new Random(seed);
        trace = 0;
    }

    private void due(String call, long got, long want) {
        calls.add(call);
        if (got != want && wrong++ < 5) {
            System.out.println(call + " answered " + got + ", due is " + want + ", behind " + calls);
        }
    }

    private int some(int low, int high) {
        int odd = random.nextInt(40);
        if (odd == 0) return low - 1;
        if (odd == 1) return high + 1;
        if (odd == 2 && random.nextInt(4) == 0) {
            int[] far = {Integer.MIN_VALUE, Integer.MAX_VALUE, -5, 64, 1 << 30};
            return far[random.nextInt(far.length)];
        }
        return low + random.nextInt(high - low + 1);
    }

    private int someFloat() {
        switch (random.nextInt(8)) {
            case 0: return random.nextInt();
            case 1: return Float.floatToIntBits(0.5f + random.nextInt(60) / 64f);
            case 2: return 1065353216 + random.nextInt(3) - 1;
            case 3: return 1056964608 + random.nextInt(3) - 1;
            case 4: return ofSide(random.nextInt(2), 2) + random.nextInt(3) - 1;
            default: {
                int lower = 2 + random.nextInt(40);
                return Float.floatToIntBits((float) (lower / 2 + 1 + random.nextInt(lower / 2)) / lower);
            }
        }
    }

    private int someShare() {
        if (random.nextInt(6) == 0) return someFloat();
        if (board.cells.isEmpty()) return 0;
        Board twin = board.twin();
        int c = random.nextInt(twin.cells.size());
        if (random.nextInt(3) != 0) twin.cells.get(c).bulk = 1 + random.nextInt(9);
        if (random.nextInt(3) == 0) twin.cells.set(c, Board.twinAs(twin.cells.get(c), random.nextInt(3)));
        return Float.floatToIntBits(twin.shareOf(random.nextBoolean() ? c : random.nextInt(twin.cells.size())));
    }

    private String someText() {
        StringBuilder b = new StringBuilder("h");
        int cells = 1 + random.nextInt(7);
        for (int c = 0; c < cells; c++) {
            b.append(';').append("pbd".charAt(random.nextInt(3))).append((char) ('1' + random.nextInt(9)));
            b.append("llllrrrrLR".charAt(random.nextInt(10)));
        }
        int nets = cells < 2 ? random.nextInt(2) : random.nextInt(7);
        for (int n = 0; n < nets; n++) {
            List<Integer> all = new ArrayList<>();
            for (int c = 0; c < cells; c++) all.add(c);
            java.util.Collections.shuffle(all, random);
            b.append(',');
            int of = Math.min(cells, 2 + random.nextInt(3));
            for (int k = 0; k < of; k++) b.append(all.get(k));
        }
        if (random.nextInt(3) == 0) {
            int at = random.nextInt(b.length() + 1);
            String signs = "h;,pbdlrLR0123456789x";
            char sign = signs.charAt(random.nextInt(signs.length()));
            switch (random.nextInt(3)) {
                case 0: b.insert(at, sign); break;
                case 1: b.setLength(at); break;
                default: if (at < b.length()) b.setCharAt(at, sign); break;
            }
        }
        return b.length() > 60 ? b.substring(0, 60) : b.toString();
    }

    private void callSheet(int k, int lane, int n) {
        due("sheet(" + k + ", " + lane + ", " + n + ")", real.sheet(k, lane, n), sheet(k, lane, n));
    }

    private void callPut(int k, int i, int v) {
        due("put(" + k + ", " + i + ", " + v + ")", real.put(k, i, v), put(k, i, v));
    }

    private void callCircuit() {
        String text = someText();
        int k = random.nextInt(4), lane = random.nextInt(3);
        int ahead = text.length() < 58 ? random.nextInt(3) : 0;
        callSheet(k, lane, text.length() + ahead);
        for (int i = 0; i < text.length(); i++) callPut(k, i + ahead, text.charAt(i));
        int as = random.nextInt(30) == 0 ? some(0, 2) : lane;
        int i = random.nextInt(30) == 0 ? some(0, 60) : ahead;
        int n = random.nextInt(30) == 0 ? some(0, 60) : text.length();
        int of = random.nextInt(30) == 0 ? some(0, 3) : k;
        int want = circuit(of, as, i, n);
        due("circuit(" + of + ", " + as + ", " + i + ", " + n + ") " + text, real.circuit(of, as, i, n), want);
    }

    private void callDay() {
        int n = random.nextInt(5) == 0 ? random.nextInt(21) : random.nextInt(5);
        int k = random.nextInt(4), lane = random.nextInt(3);
        int ahead = random.nextInt(2);
        callSheet(k, lane, 2 * n + ahead);
        int cells = Math.max(1, board.cells.size());
        for (int p = 0; p < n; p++) {
            int kind = random.nextInt(3);
            int c = random.nextInt(12) == 0 ? random.nextInt(7) : random.nextInt(cells);
            int first = kind == 0 ? 0 : kind == 1 ? 1 + random.nextInt(9) : random.nextInt(3);
            int second = kind == 0 ? c : kind == 1 ? 10 + c : 20;
            if (random.nextInt(60) == 0) first = random.nextInt(14) - 2;
            if (random.nextInt(60) == 0) second = random.nextInt(25) - 2;
            callPut(k, ahead + 2 * p, first);
            callPut(k, ahead + 2 * p + 1, second);
        }
        for (int what : new int[] {0, 1, 2, 3, 4, 10 + random.nextInt(7), some(0, 16)}) {
            int as = random.nextInt(40) == 0 ? some(0, 2) : lane;
            int i = random.nextInt(40) == 0 ? some(0, 20) : ahead;
            int pairs = random.nextInt(40) == 0 ? some(0, 20) : n;
            int of = random.nextInt(40) == 0 ? some(0, 3) : k;
            due("day(" + of + ", " + as + ", " + i + ", " + pairs + ", " + what + ")",
                real.day(of, as, i, pairs, what), day(of, as, i, pairs, what));
        }
    }

    private void callOne() {
        int a = some(0, 6), b;
        switch (random.nextInt(31)) {
            case 0: b = some(0, 7); due("ofCell(" + a + ", " + b + ")", real.ofCell(a, b), ofCell(a, b)); break;
            case 1: b = some(0, 2); due("ofNet(" + a + ", " + b + ")", real.ofNet(a, b), ofNet(a, b)); break;
            case 2: a = some(0, 1); b = some(0, 3); due("ofSide(" + a + ", " + b + ")", real.ofSide(a, b), ofSide(a, b)); break;
            case 3: b = some(1, 9); due("bulk(" + a + ", " + b + ")", real.bulk(a, b), bulk(a, b)); break;
            case 4: a = someFloat(); due("bound(" + a + ")", real.bound(a), bound(a)); break;
            case 5: case 6: due("move(" + a + ")", real.move(a), move(a)); break;
            case 7: a = some(0, 2); due("pass(" + a + ")", real.pass(a), pass(a)); break;
            case 8: case 9: a = some(0, 2); b = some(0, 16); due("tries(" + a + ", " + b + ")", real.tries(a, b), tries(a, b)); break;
            case 10: a = some(0, 2); due("settle(" + a + ")", real.settle(a), settle(a)); break;
            case 11: callDay(); break;
            case 12: a = some(0, 1); due("least(" + a + ")", real.least(a), least(a)); break;
            case 13: b = some(0, 6); due("apart(" + a + ", " + b + ")", real.apart(a, b), apart(a, b)); break;
            case 14: a = some(0, 2); due("closest(" + a + ")", real.closest(a), closest(a)); break;
            case 15: a = some(0, 2); b = some(0, 9); due("rack(" + a + ", " + b + ")", real.rack(a, b), rack(a, b)); break;
            case 16: case 17: b = some(0, 6); due("stow(" + a + ", " + b + ")", real.stow(a, b), stow(a, b)); break;
            case 18: a = some(0, 9); due("stowed(" + a + ")", real.stowed(a), stowed(a)); break;
            case 19: b = someShare(); due("reading(" + a + ", " + b + ")", real.reading(a, b), reading(a, b)); break;
            case 20: a = some(0, 4); due("back(" + a + ")", real.back(a), back(a)); break;
            case 21: due("kinds(" + a + ")", real.kinds(a), kinds(a)); break;
            case 22: due("bulks(" + a + ")", real.bulks(a), bulks(a)); break;
            case 23: b = some(0, 1); due("odds(" + a + ", " + b + ")", real.odds(a, b), odds(a, b)); break;
            case 24: callTold(a); break;
            case 25: a = some(0, 3); due("lose(" + a + ")", real.lose(a), lose(a)); break;
            case 26: a = some(0, 3); b = some(0, 60); callPut(a, b, random.nextInt()); break;
            case 27: callCell(); break;
            case 28: callCopy(); break;
            case 29: b = some(0, 2); due("as(" + a + ", " + b + ")", real.as(a, b), as(a, b)); break;
            default: callSheet(some(0, 3), some(0, 2), some(0, 60)); break;
        }
        due("fault()", real.fault(), fault);
    }

    private void callTold(int c) {
        due("tell(" + c + ")", real.tell(c), cellIs(c) ? board.cells.get(c).tell() : UNKNOWN);
        int d = some(0, 6);
        due("probe(" + d + ")", real.probe(d), cellIs(d) ? board.cells.get(d).probe() : UNKNOWN);
        due("trace()", real.trace(), trace);
    }

    private void callCell() {
        int k = some(0, 3), i = some(0, 60), lane = some(0, 2);
        due("cell(" + k + ", " + i + ", " + lane + ")", real.cell(k, i, lane), cell(k, i, lane));
    }

    private void callCopy() {
        int k = some(0, 3), other = random.nextBoolean() ? k : some(0, 3);
        int i = some(0, 30), j = some(0, 30), n = some(0, 20);
        due("copy(" + k + ", " + i + ", " + other + ", " + j + ", " + n + ")",
            real.copy(k, i, other, j, n), copy(k, i, other, j, n));
        for (int at = 0; cellIsThere(other, at); at++) {
            int lane = sheets[other] instanceof byte[] ? 0 : sheets[other] instanceof short[] ? 1 : 2;
            due("cell", real.cell(other, at, lane), cell(other, at, lane));
        }
    }

    private boolean cellIsThere(int k, int at) {
        return k >= 0 && k < 4 && sheets[k] != null && at < lengthOf(sheets[k]);
    }

    private void run() {
        if (random.nextInt(10) != 0) callCircuit();
        while (calls.size() < CALLS) {
            if (random.nextInt(60) == 0) {
                callCircuit();
            } else {
                callOne();
            }
            for (int what = 0; what < 5; what++) due("many(" + what + ")", real.many(what), many(what));
            due("ofSide(1, 0)", real.ofSide(1, 0), ofSide(1, 0));
        }
    }

    public static void main(String[] args) {
        for (int seed = 1; seed <= RUNS; seed++) {
            new ModelTest(seed).run();
        }
        System.out.println("ModelTest: " + RUNS + " runs, " + wrong + " wrong");
        if (wrong != 0) {
            System.exit(1);
        }
    }
}
