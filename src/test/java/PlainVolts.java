import java.math.BigInteger;
import java.util.ArrayList;
import java.util.List;

/**
 * The document once more, word by word and slow: fractions of any size, every
 * set, every row and every order tried. It shares nothing with ChipVolts.
 */
final class PlainVolts {
    private static final long FLOW_BAD = -1000000000000L, FLOW_NO = -2000000000000L;

    /** A fraction in lowest terms, below above 0. */
    record Part(BigInteger above, BigInteger below) implements Comparable<Part> {
        static final Part ZERO = of(0);

        static Part of(long v) {
            return new Part(BigInteger.valueOf(v), BigInteger.ONE);
        }

        static Part by(BigInteger a, BigInteger b) {
            BigInteger g = a.gcd(b);
            BigInteger sign = BigInteger.valueOf(b.signum());
            return new Part(a.divide(g).multiply(sign), b.divide(g).multiply(sign));
        }

        Part plus(Part o) {
            return by(above.multiply(o.below).add(o.above.multiply(below)), below.multiply(o.below));
        }

        Part minus(Part o) {
            return by(above.multiply(o.below).subtract(o.above.multiply(below)), below.multiply(o.below));
        }

        Part times(Part o) {
            return by(above.multiply(o.above), below.multiply(o.below));
        }

        Part over(Part o) {
            return by(above.multiply(o.below), below.multiply(o.above));
        }

        boolean isZero() {
            return above.signum() == 0;
        }

        @Override
        public int compareTo(Part o) {
            return above.multiply(o.below).compareTo(o.above.multiply(below));
        }

        long told(int what) {
            return what == 0 ? above.longValueExact() : below.longValueExact();
        }
    }

    private record Wire(int a, int b, int width, int price) {
    }

    private record Block(int knot, int most) {
    }

    private int n = 2;
    private List<Wire> wires = new ArrayList<>();
    private boolean[] isPad = new boolean[7];
    private int[] pulls = new int[7];
    private List<Block> blocks = new ArrayList<>();
    private int budget = 0;

    private boolean knot(int k) {
        return 0 <= k && k < n;
    }

    private boolean wireIs(int w) {
        return 0 <= w && w < wires.size();
    }

    private static boolean part(int what) {
        return what == 0 || what == 1;
    }

    int net(int newN) {
        if (newN < 2 || newN > 7) {
            return -2;
        }
        n = newN;
        wires = new ArrayList<>();
        isPad = new boolean[7];
        pulls = new int[7];
        blocks = new ArrayList<>();
        budget = 0;
        return 1;
    }

    int wire(int a, int b, int width, int price) {
        if (!knot(a) || !knot(b) || a == b || width < 1 || width > 6 || price < 1 || price > 100) {
            return -2;
        }
        if (wires.size() == 12) {
            return -4;
        }
        wires.add(new Wire(a, b, width, price));
        return wires.size() - 1;
    }

    int width(int w, int v) {
        if (!wireIs(w) || v < 1 || v > 6) {
            return -2;
        }
        Wire old = wires.get(w);
        wires.set(w, new Wire(old.a, old.b, v, old.price));
        return old.width;
    }

    int pad(int k, boolean is) {
        if (!knot(k)) {
            return -2;
        }
        if (isPad[k] == is) {
            return -3;
        }
        isPad[k] = is;
        return 1;
    }

    int pull(int k, int v) {
        if (!knot(k) || v < 0 || v > 100) {
            return -2;
        }
        int was = pulls[k];
        pulls[k] = v;
        return was;
    }

    /** From each knot wires lead to one that is marked. */
    private boolean leads(List<Wire> by, boolean[] marked) {
        boolean[] reached = marked.clone();
        for (int round = 0; round < n; round++) {
            for (Wire w : by) {
                if (reached[w.a] || reached[w.b]) {
                    reached[w.a] = true;
                    reached[w.b] = true;
                }
            }
        }
        for (int k = 0; k < n; k++) {
            if (!reached[k]) {
                return false;
            }
        }
        return true;
    }

    private boolean fed() {
        return leads(wires, isPad);
    }

    /** The falls, or null: not fed. */
    private Part[] falls(List<Wire> by, boolean[] pad, int[] pulling) {
        if (!leads(by, pad)) {
            return null;
        }
        Part[][] m = new Part[n][n + 1];
        for (int i = 0; i < n; i++) {
            for (int j = 0; j <= n; j++) {
                m[i][j] = Part.ZERO;
            }
            m[i][n] = Part.of(pad[i] ? 0 : pulling[i]);
            if (pad[i]) {
                m[i][i] = Part.of(1);
            }
        }
        for (Wire w : by) {
            for (int[] ends : new int[][] {{w.a, w.b}, {w.b, w.a}}) {
                if (!pad[ends[0]]) {
                    m[ends[0]][ends[0]] = m[ends[0]][ends[0]].plus(Part.of(w.width));
                    m[ends[0]][ends[1]] = m[ends[0]][ends[1]].minus(Part.of(w.width));
                }
            }
        }
        return solved(m);
    }

    private Part[] solved(Part[][] m) {
        for (int c = 0; c < n; c++) {
            int p = c;
            while (m[p][c].isZero()) {
                p++;
            }
            Part[] swap = m[p];
            m[p] = m[c];
            m[c] = swap;
            for (int i = 0; i < n; i++) {
                if (i != c && !m[i][c].isZero()) {
                    Part times = m[i][c].over(m[c][c]);
                    for (int j = 0; j <= n; j++) {
                        m[i][j] = m[i][j].minus(times.times(m[c][j]));
                    }
                }
            }
        }
        Part[] x = new Part[n];
        for (int i = 0; i < n; i++) {
            x[i] = m[i][n].over(m[i][i]);
        }
        return x;
    }

    private Part[] falls() {
        return falls(wires, isPad, pulls);
    }

    private static Part greatestOf(Part[] falls) {
        Part best = falls[0];
        for (Part f : falls) {
            if (f.compareTo(best) > 0) {
                best = f;
            }
        }
        return best;
    }

    long fall(int k, int what) {
        if (!knot(k) || !part(what)) {
            return -2;
        }
        Part[] f = falls();
        return f == null ? -3 : f[k].told(what);
    }

    int greatest() {
        Part[] f = falls();
        if (f == null) {
            return -3;
        }
        for (int k = 0; k < n; k++) {
            if (f[k].equals(greatestOf(f))) {
                return k;
            }
        }
        throw new IllegalStateException();
    }

    long flow(int w, int what) {
        if (!wireIs(w) || !part(what)) {
            return FLOW_BAD;
        }
        Part[] f = falls();
        if (f == null) {
            return FLOW_NO;
        }
        Wire x = wires.get(w);
        return Part.of(x.width).times(f[x.a].minus(f[x.b])).told(what);
    }

    /** R(a, b) of a net that is fed. */
    private Part resistance(int a, int b) {
        if (isPad[a] || isPad[b]) {
            return Part.ZERO;
        }
        int[] one = new int[7];
        one[b] = 1;
        return falls(wires, isPad, one)[a];
    }

    long resist(int a, int b, int what) {
        if (!knot(a) || !knot(b) || !part(what)) {
            return -2;
        }
        return fed() ? resistance(a, b).told(what) : -3;
    }

    int block(int k, int most) {
        if (!knot(k) || most < 1 || most > 20) {
            return -2;
        }
        if (blocks.size() == 6) {
            return -4;
        }
        blocks.add(new Block(k, most));
        return blocks.size() - 1;
    }

    int budget(int v) {
        if (v < 0 || v > 100) {
            return -2;
        }
        int was = budget;
        budget = v;
        return was;
    }

    private int[] worstFor(int k) {
        List<Integer> turns = new ArrayList<>();
        List<Part> by = new ArrayList<>();
        for (int b = 0; b < blocks.size(); b++) {
            turns.add(b);
            by.add(resistance(k, blocks.get(b).knot));
        }
        turns.sort((p, q) -> by.get(p).equals(by.get(q)) ? p - q : by.get(q).compareTo(by.get(p)));
        int[] gets = new int[blocks.size()];
        int left = budget;
        for (int b : turns) {
            gets[b] = Math.min(left, blocks.get(b).most);
            left -= gets[b];
        }
        return gets;
    }

    private Part worstFallOf(int k) {
        int[] gets = worstFor(k);
        int[] pulling = new int[7];
        for (int b = 0; b < gets.length; b++) {
            pulling[blocks.get(b).knot] += gets[b];
        }
        return falls(wires, isPad, pulling)[k];
    }

    int worst(int k, int block) {
        if (!knot(k) || block < 0 || block >= blocks.size()) {
            return -2;
        }
        return fed() ? worstFor(k)[block] : -3;
    }

    long worstFall(int k, int what) {
        if (!knot(k) || !part(what)) {
            return -2;
        }
        return fed() ? worstFallOf(k).told(what) : -3;
    }

    int worstKnot() {
        if (!fed()) {
            return -3;
        }
        int best = 0;
        for (int k = 1; k < n; k++) {
            if (worstFallOf(k).compareTo(worstFallOf(best)) > 0) {
                best = k;
            }
        }
        return best;
    }

    /** The greatest fall without a wire, or null: not fed. */
    private Part opened(int w) {
        List<Wire> rest = new ArrayList<>(wires);
        rest.remove(w);
        Part[] f = falls(rest, isPad, pulls);
        return f == null ? null : greatestOf(f);
    }

    long open(int w, int what) {
        if (!wireIs(w) || !part(what)) {
            return -2;
        }
        Part f = opened(w);
        return f == null ? -3 : f.told(what);
    }

    int weakest() {
        int best = -1;
        Part greatest = null;
        for (int w = 0; w < wires.size(); w++) {
            Part f = opened(w);
            if (f == null) {
                return w;
            }
            if (greatest == null || f.compareTo(greatest) > 0) {
                best = w;
                greatest = f;
            }
        }
        return best;
    }

    long shrunk(int ports, int a, int b, int what) {
        boolean told = ports >= 1 && ports < 1 << n && knot(a) && knot(b) && a != b && part(what);
        if (!told || (ports >> a & 1) == 0 || (ports >> b & 1) == 0) {
            return -2;
        }
        boolean[] port = new boolean[7];
        for (int k = 0; k < n; k++) {
            port[k] = (ports >> k & 1) == 1;
            if (isPad[k] && !port[k]) {
                return -3;
            }
        }
        if (!leads(wires, port)) {
            return -3;
        }
        return shrunkTo(port)[a][b].told(what);
    }

    private Part[][] shrunkTo(boolean[] port) {
        Part[][] width = new Part[n][n];
        for (int i = 0; i < n; i++) {
            for (int j = 0; j < n; j++) {
                width[i][j] = Part.ZERO;
            }
        }
        for (Wire w : wires) {
            width[w.a][w.b] = width[w.a][w.b].plus(Part.of(w.width));
            width[w.b][w.a] = width[w.b][w.a].plus(Part.of(w.width));
        }
        boolean[] out = new boolean[n];
        for (int x = n - 1; x >= 0; x--) {
            if (!port[x]) {
                out[x] = true;
                takeOut(width, out, x);
            }
        }
        return width;
    }

    private void takeOut(Part[][] width, boolean[] out, int x) {
        Part sum = Part.ZERO;
        for (int k = 0; k < n; k++) {
            if (!out[k]) {
                sum = sum.plus(width[x][k]);
            }
        }
        for (int a = 0; a < n; a++) {
            for (int b = 0; b < n; b++) {
                if (a != b && !out[a] && !out[b]) {
                    width[a][b] = width[a][b].plus(width[a][x].times(width[x][b]).over(sum));
                }
            }
        }
    }

    int pads(int j) {
        if (j < 1 || j > 3 || j > n) {
            return -2;
        }
        int best = -3;
        Part least = null;
        for (int set = 0; set < 1 << n; set++) {
            boolean[] pad = new boolean[7];
            int size = 0;
            for (int k = 0; k < n; k++) {
                pad[k] = (set >> k & 1) == 1;
                size += pad[k] ? 1 : 0;
            }
            Part[] f = size == j ? falls(wires, pad, pulls) : null;
            if (f != null && (least == null || greatestOf(f).compareTo(least) < 0)) {
                best = set;
                least = greatestOf(f);
            }
        }
        return best;
    }

    /** Every row of up to u more, none above 6. */
    private void rows(int u, int[] row, int w, List<int[]> all) {
        if (w == wires.size()) {
            all.add(row.clone());
            return;
        }
        for (int more = 0; more <= u && wires.get(w).width + more <= 6; more++) {
            row[w] = more;
            rows(u - more, row, w + 1, all);
        }
        row[w] = 0;
    }

    private int priceOf(int[] row) {
        int sum = 0;
        for (int w = 0; w < row.length; w++) {
            sum += row[w] * wires.get(w).price;
        }
        return sum;
    }

    private static int manyOf(int[] row) {
        int sum = 0;
        for (int more : row) {
            sum += more;
        }
        return sum;
    }

    private boolean comesFirst(int[] p, int[] q) {
        if (priceOf(p) != priceOf(q)) {
            return priceOf(p) < priceOf(q);
        }
        if (manyOf(p) != manyOf(q)) {
            return manyOf(p) < manyOf(q);
        }
        for (int w = 0; w < p.length; w++) {
            if (p[w] != q[w]) {
                return p[w] > q[w];
            }
        }
        return false;
    }

    /** The row of WIDENED, or null: it can't be. */
    private int[] widening(int limit, int u) {
        List<int[]> all = new ArrayList<>();
        rows(u, new int[wires.size()], 0, all);
        all.sort((p, q) -> comesFirst(p, q) ? -1 : comesFirst(q, p) ? 1 : 0);
        for (int[] row : all) {
            List<Wire> wider = new ArrayList<>();
            for (int w = 0; w < row.length; w++) {
                Wire x = wires.get(w);
                wider.add(new Wire(x.a, x.b, x.width + row[w], x.price));
            }
            if (greatestOf(falls(wider, isPad, pulls)).compareTo(Part.of(limit)) <= 0) {
                return row;
            }
        }
        return null;
    }

    int widen(int limit, int u) {
        if (limit < 0 || limit > 1000 || u < 0 || u > 3) {
            return -2;
        }
        if (!fed()) {
            return -3;
        }
        int[] row = widening(limit, u);
        return row == null ? -1 : priceOf(row);
    }

    int widened(int limit, int u, int w) {
        if (limit < 0 || limit > 1000 || u < 0 || u > 3 || !wireIs(w)) {
            return -2;
        }
        if (!fed()) {
            return -3;
        }
        int[] row = widening(limit, u);
        return row == null ? -1 : row[w];
    }

    private final List<Integer> order = new ArrayList<>();
    private Part orderFall;

    /** Tries every order of those that are still to come, by numbers. */
    private void orders(Part[][] r, List<Integer> come, Part soFar) {
        if (come.size() == blocks.size()) {
            if (orderFall == null || soFar.compareTo(orderFall) < 0) {
                orderFall = soFar;
                order.clear();
                order.addAll(come);
            }
            return;
        }
        for (int b = 0; b < blocks.size(); b++) {
            if (!come.contains(b)) {
                Part peak = soFar;
                for (int k = 0; k < n; k++) {
                    Part f = r[k][b].times(Part.of(3L * blocks.get(b).most));
                    for (int c : come) {
                        f = f.plus(r[k][c].times(Part.of(blocks.get(c).most)));
                    }
                    peak = f.compareTo(peak) > 0 ? f : peak;
                }
                come.add(b);
                orders(r, come, peak);
                come.remove(come.size() - 1);
            }
        }
    }

    private void findOrder() {
        Part[][] r = new Part[n][blocks.size()];
        for (int k = 0; k < n; k++) {
            for (int b = 0; b < blocks.size(); b++) {
                r[k][b] = resistance(k, blocks.get(b).knot);
            }
        }
        order.clear();
        orderFall = null;
        orders(r, new ArrayList<>(), Part.ZERO);
    }

    int woken(int i) {
        if (!fed()) {
            return -3;
        }
        if (i < 0 || i >= blocks.size()) {
            return -1;
        }
        findOrder();
        return order.get(i);
    }

    long wokenFall(int what) {
        if (!part(what)) {
            return -2;
        }
        if (!fed()) {
            return -3;
        }
        findOrder();
        return orderFall.told(what);
    }

    int count(int what) {
        int padCount = 0;
        for (int k = 0; k < n; k++) {
            padCount += isPad[k] ? 1 : 0;
        }
        int[] counts = {n, wires.size(), padCount, blocks.size(), budget, fed() ? 1 : 0};
        return what < 0 || what > 5 ? -2 : counts[what];
    }

    long digest() {
        long h = 191;
        for (int what = 0; what <= 5; what++) {
            h = 31 * h + count(what);
        }
        for (int k = 0; k < n; k++) {
            h = 31 * h + pulls[k];
            h = 31 * h + (isPad[k] ? 1 : 0);
            h = 31 * h + fall(k, 0);
            h = 31 * h + fall(k, 1);
        }
        for (Wire w : wires) {
            for (long v : new long[] {w.a, w.b, w.width, w.price}) {
                h = 31 * h + v;
            }
        }
        for (Block b : blocks) {
            h = 31 * h + b.knot;
            h = 31 * h + b.most;
        }
        return h;
    }
}
