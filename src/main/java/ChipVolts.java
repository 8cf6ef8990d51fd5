/**
 * Volts on a chip: a net of power wires whose knots fall as blocks pull.
 * Every number is exact: the falls of one net share one below, so that they
 * are whole numbers until a call tells one of them in lowest terms.
 */
public final class ChipVolts {
    public static final int NONE = -1, BAD = -2, NO = -3, FULL = -4;

    private static final int MOST_KNOTS = 7, MOST_WIRES = 12, MOST_BLOCKS = 6;
    private static final int MOST_WIDTH = 6, MOST_PRICE = 100, MOST_PULL = 100;
    private static final int MOST_OF_BLOCK = 20, MOST_BUDGET = 100;
    private static final int MOST_LIMIT = 1000, MOST_MORE = 3, MOST_PADS = 3;
    private static final int WAKING_TIMES = 3;
    private static final int GCD_STEPS = 100;
    private static final long FLOW_BAD = -1000000000000L, FLOW_NO = -2000000000000L;

    private final Net net;
    private final Blocks blocks;
    private final Balance here;
    private final Balance trial;
    private final Widening widening;
    private final Waking waking;

    public ChipVolts() {
        net = new Net();
        blocks = new Blocks();
        here = new Balance();
        trial = new Balance();
        widening = new Widening();
        waking = new Waking();
    }

    // ---- the net

    public int net(int n) {
        if (!between(n, 2, MOST_KNOTS)) {
            return BAD;
        }
        net.clear(n);
        blocks.clear();
        return 1;
    }

    public int wire(int a, int b, int width, int price) {
        if (!net.isKnot(a) || !net.isKnot(b) || a == b) {
            return BAD;
        }
        if (!between(width, 1, MOST_WIDTH) || !between(price, 1, MOST_PRICE)) {
            return BAD;
        }
        if (net.wires >= MOST_WIRES) {
            return FULL;
        }
        return net.addWire(a, b, width, price);
    }

    public int width(int w, int v) {
        if (!net.isWire(w) || !between(v, 1, MOST_WIDTH)) {
            return BAD;
        }
        int was = net.width[w];
        net.width[w] = v;
        return was;
    }

    public int pad(int k, boolean is) {
        if (!net.isKnot(k)) {
            return BAD;
        }
        if (net.isPad(k) == is) {
            return NO;
        }
        net.padBits ^= 1 << k;
        return 1;
    }

    public int pull(int k, int v) {
        if (!net.isKnot(k) || !between(v, 0, MOST_PULL)) {
            return BAD;
        }
        int was = net.pulls[k];
        net.pulls[k] = v;
        return was;
    }

    public long fall(int k, int what) {
        if (!net.isKnot(k) || !isPart(what)) {
            return BAD;
        }
        if (!settled()) {
            return NO;
        }
        return part(here.above[k], here.below, what);
    }

    public int greatest() {
        return settled() ? here.highest() : NO;
    }

    public long flow(int w, int what) {
        if (!net.isWire(w) || !isPart(what)) {
            return FLOW_BAD;
        }
        if (!settled()) {
            return FLOW_NO;
        }
        long difference = here.above[net.from[w]] - here.above[net.to[w]];
        return part(net.width[w] * difference, here.below, what);
    }

    public long resist(int a, int b, int what) {
        if (!net.isKnot(a) || !net.isKnot(b) || !isPart(what)) {
            return BAD;
        }
        if (!settled()) {
            return NO;
        }
        return part(here.cell[a][b], here.below, what);
    }

    // ---- blocks, opens

    public int block(int k, int most) {
        if (!net.isKnot(k) || !between(most, 1, MOST_OF_BLOCK)) {
            return BAD;
        }
        if (blocks.number >= MOST_BLOCKS) {
            return FULL;
        }
        return blocks.addBlock(k, most);
    }

    public int budget(int v) {
        if (!between(v, 0, MOST_BUDGET)) {
            return BAD;
        }
        int was = blocks.budget;
        blocks.budget = v;
        return was;
    }

    public int worst(int k, int block) {
        if (!net.isKnot(k) || !blocks.isBlock(block)) {
            return BAD;
        }
        if (!settled()) {
            return NO;
        }
        blocks.share(here, k);
        return blocks.gets[block];
    }

    public long worstFall(int k, int what) {
        if (!net.isKnot(k) || !isPart(what)) {
            return BAD;
        }
        if (!settled()) {
            return NO;
        }
        return part(blocks.worstAbove(here, k), here.below, what);
    }

    public int worstKnot() {
        if (!settled()) {
            return NO;
        }
        int best = 0;
        long bestAbove = blocks.worstAbove(here, 0);
        for (int k = 1; k < net.knots; k++) {
            long above = blocks.worstAbove(here, k);
            if (above > bestAbove) {
                best = k;
                bestAbove = above;
            }
        }
        return best;
    }

    public long open(int w, int what) {
        if (!net.isWire(w) || !isPart(what)) {
            return BAD;
        }
        if (!settled() || !opened(w)) {
            return NO;
        }
        return part(trial.highestAbove(), trial.below, what);
    }

    public int weakest() {
        if (net.wires == 0) {
            return NONE;
        }
        // Not FED with all wires, it is not FED without the first.
        if (!settled()) {
            return 0;
        }
        int best = NONE;
        long bestAbove = 0;
        long bestBelow = 1;
        for (int w = 0; w < net.wires; w++) {
            if (!opened(w)) {
                return w;
            }
            long above = trial.highestAbove();
            if (best == NONE || isLess(bestAbove, bestBelow, above, trial.below)) {
                best = w;
                bestAbove = above;
                bestBelow = trial.below;
            }
        }
        return best;
    }

    // ---- shrunk, placed, widened, woken

    public long shrunk(int ports, int a, int b, int what) {
        if (!between(ports, 1, net.allBits()) || !isPart(what)) {
            return BAD;
        }
        if (!net.isKnot(a) || !net.isKnot(b) || a == b) {
            return BAD;
        }
        if (!has(ports, a) || !has(ports, b)) {
            return BAD;
        }
        if ((net.padBits & ~ports) != 0) {
            return NO;
        }
        trial.lay(net);
        if (!trial.takeOutAllBut(ports)) {
            return NO;
        }
        return part(-trial.cell[a][b], trial.below, what);
    }

    public int pads(int j) {
        if (!between(j, 1, MOST_PADS) || j > net.knots) {
            return BAD;
        }
        int best = NO;
        long bestAbove = 0;
        long bestBelow = 1;
        for (int set = 1; set <= net.allBits(); set++) {
            if (Integer.bitCount(set) != j || !trial.settle(net, set)) {
                continue;
            }
            long above = trial.highestAbove();
            if (best == NO || isLess(above, trial.below, bestAbove, bestBelow)) {
                best = set;
                bestAbove = above;
                bestBelow = trial.below;
            }
        }
        return best;
    }

    public int widen(int limit, int u) {
        if (!between(limit, 0, MOST_LIMIT) || !between(u, 0, MOST_MORE)) {
            return BAD;
        }
        return widening.search(net, limit, u);
    }

    public int widened(int limit, int u, int w) {
        if (!between(limit, 0, MOST_LIMIT) || !between(u, 0, MOST_MORE) || !net.isWire(w)) {
            return BAD;
        }
        int price = widening.search(net, limit, u);
        return price < 0 ? price : widening.bestRow[w];
    }

    public int woken(int i) {
        if (!settled()) {
            return NO;
        }
        if (!blocks.isBlock(i)) {
            return NONE;
        }
        waking.search(here, blocks);
        return waking.order[i];
    }

    public long wokenFall(int what) {
        if (!isPart(what)) {
            return BAD;
        }
        if (!settled()) {
            return NO;
        }
        waking.search(here, blocks);
        return part(waking.least[0], here.below, what);
    }

    public int count(int what) {
        switch (what) {
            case 0:
                return net.knots;
            case 1:
                return net.wires;
            case 2:
                return Integer.bitCount(net.padBits);
            case 3:
                return blocks.number;
            case 4:
                return blocks.budget;
            case 5:
                return settled() ? 1 : 0;
            default:
                return BAD;
        }
    }

    public long digest() {
        long h = 191;
        for (int what = 0; what <= 5; what++) {
            h = 31 * h + count(what);
        }
        h = digestOfKnots(h);
        for (int w = 0; w < net.wires; w++) {
            h = 31 * h + net.from[w];
            h = 31 * h + net.to[w];
            h = 31 * h + net.width[w];
            h = 31 * h + net.price[w];
        }
        for (int b = 0; b < blocks.number; b++) {
            h = 31 * h + blocks.home[b];
            h = 31 * h + blocks.most[b];
        }
        return h;
    }

    private long digestOfKnots(long start) {
        boolean fed = settled();
        long h = start;
        for (int k = 0; k < net.knots; k++) {
            h = 31 * h + net.pulls[k];
            h = 31 * h + (net.isPad(k) ? 1 : 0);
            h = 31 * h + (fed ? part(here.above[k], here.below, 0) : NO);
            h = 31 * h + (fed ? part(here.above[k], here.below, 1) : NO);
        }
        return h;
    }

    /** Whether THE NET is FED; if so, its falls and R stand in here. */
    private boolean settled() {
        return here.settle(net, net.padBits);
    }

    /** Whether THE NET, settled, is FED without a wire; if so, the falls stand in trial. */
    private boolean opened(int w) {
        return trial.alter(here, net.from[w], net.to[w], -net.width[w]);
    }

    private static boolean between(int v, int least, int most) {
        return v >= least && v <= most;
    }

    private static boolean isPart(int what) {
        return what == 0 || what == 1;
    }

    private static boolean has(int bits, int k) {
        return ((bits >> k) & 1) != 0;
    }

    /** Both belows are above 0; the products stay under 3 * 10^18 for every net. */
    private static boolean isLess(long above, long below, long otherAbove, long otherBelow) {
        return above * otherBelow < otherAbove * below;
    }

    /** A fraction in lowest terms: its above (what = 0) or its below (1). */
    private static long part(long above, long below, int what) {
        long divisor = commonDivisor(Math.abs(above), below);
        if (divisor <= 0) {
            return NO;
        }
        return (what == 0 ? above : below) / divisor;
    }

    private static long commonDivisor(long a, long b) {
        long greater = a;
        long rest = b;
        for (int step = 0; step < GCD_STEPS && rest != 0; step++) {
            long next = greater % rest;
            greater = rest;
            rest = next;
        }
        return greater;
    }

    /** Knots, wires, pads and pulls as told. */
    private static final class Net {
        private int knots;
        private int wires;
        private int padBits;
        private final int[] pulls;
        private final int[] from;
        private final int[] to;
        private final int[] width;
        private final int[] price;

        private Net() {
            knots = 2;
            wires = 0;
            padBits = 0;
            pulls = new int[MOST_KNOTS];
            from = new int[MOST_WIRES];
            to = new int[MOST_WIRES];
            width = new int[MOST_WIRES];
            price = new int[MOST_WIRES];
        }

        private void clear(int n) {
            knots = n;
            wires = 0;
            padBits = 0;
            for (int k = 0; k < MOST_KNOTS; k++) {
                pulls[k] = 0;
            }
        }

        private int addWire(int a, int b, int ofWidth, int ofPrice) {
            int w = wires;
            from[w] = a;
            to[w] = b;
            width[w] = ofWidth;
            price[w] = ofPrice;
            wires++;
            return w;
        }

        private boolean isKnot(int k) {
            return k >= 0 && k < knots;
        }

        private boolean isWire(int w) {
            return w >= 0 && w < wires;
        }

        private boolean isPad(int k) {
            return has(padBits, k);
        }

        private int allBits() {
            return (1 << knots) - 1;
        }
    }

    /**
     * How the knots of a net balance: at first each row tells the pull at a
     * knot by the falls of all. Taking a knot out solves its row for its
     * fall. Every cell is a whole number to be told by below, a minor of the
     * first rows, so that each division leaves no rest.
     */
    private static final class Balance {
        private int knots;
        private long below;
        private final long[][] cell;
        private final long[] above;
        private final long[] spread;

        private Balance() {
            knots = 0;
            below = 1;
            cell = new long[MOST_KNOTS][MOST_KNOTS];
            above = new long[MOST_KNOTS];
            spread = new long[MOST_KNOTS];
        }

        /** With pads: whether the net is FED; then cells are R and above the falls. */
        private boolean settle(Net net, int pads) {
            lay(net);
            if (!takeOutAllBut(pads)) {
                return false;
            }
            forget(pads);
            weigh(net.pulls);
            return true;
        }

        private void lay(Net net) {
            knots = net.knots;
            below = 1;
            for (int i = 0; i < knots; i++) {
                for (int j = 0; j < knots; j++) {
                    cell[i][j] = 0;
                }
            }
            for (int w = 0; w < net.wires; w++) {
                int a = net.from[w];
                int b = net.to[w];
                cell[a][a] += net.width[w];
                cell[b][b] += net.width[w];
                cell[a][b] -= net.width[w];
                cell[b][a] -= net.width[w];
            }
        }

        /** False: from some knot to be taken out no wires lead to one that is kept. */
        private boolean takeOutAllBut(int kept) {
            for (int k = knots - 1; k >= 0; k--) {
                if (!has(kept, k) && !takeOut(k)) {
                    return false;
                }
            }
            return true;
        }

        private boolean takeOut(int k) {
            long pivot = cell[k][k];
            if (pivot <= 0 || below <= 0) {
                return false;
            }
            for (int i = 0; i < knots; i++) {
                for (int j = 0; j < knots; j++) {
                    if (i != k && j != k) {
                        cell[i][j] = (cell[i][j] * pivot - cell[i][k] * cell[k][j]) / below;
                    }
                }
            }
            for (int j = 0; j < knots; j++) {
                cell[k][j] = -cell[k][j];
            }
            cell[k][k] = below;
            below = pivot;
            return true;
        }

        /** R is 0 from a pad and to one. */
        private void forget(int pads) {
            for (int i = 0; i < knots; i++) {
                for (int j = 0; j < knots; j++) {
                    if (has(pads, i) || has(pads, j)) {
                        cell[i][j] = 0;
                    }
                }
            }
        }

        private void weigh(int[] pulls) {
            for (int k = 0; k < knots; k++) {
                long sum = 0;
                for (int j = 0; j < knots; j++) {
                    sum += cell[k][j] * pulls[j];
                }
                above[k] = sum;
            }
        }

        private int highest() {
            int best = 0;
            for (int k = 1; k < knots; k++) {
                if (above[k] > above[best]) {
                    best = k;
                }
            }
            return best;
        }

        private long highestAbove() {
            return above[highest()];
        }

        private boolean isWithin(int limit) {
            return highestAbove() <= limit * below;
        }

        /**
         * The falls of a settled net if the wires between a and b were wider
         * by more (below 0: less wide); false if it is not FED then. One
         * wire's change is of rank one, so that nothing is solved anew.
         */
        private boolean alter(Balance was, int a, int b, int more) {
            knots = was.knots;
            for (int k = 0; k < knots; k++) {
                spread[k] = was.cell[k][a] - was.cell[k][b];
            }
            below = was.below + more * (spread[a] - spread[b]);
            if (below <= 0 || was.below <= 0) {
                return false;
            }
            long drop = was.above[a] - was.above[b];
            for (int k = 0; k < knots; k++) {
                above[k] = (was.above[k] * below - more * spread[k] * drop) / was.below;
            }
            return true;
        }

        /** R after alter by the same more. */
        private void alterCells(Balance was, int more) {
            if (was.below <= 0) {
                return;
            }
            for (int i = 0; i < knots; i++) {
                for (int j = 0; j < knots; j++) {
                    long change = more * spread[i] * spread[j];
                    cell[i][j] = (was.cell[i][j] * below - change) / was.below;
                }
            }
        }
    }

    /** Blocks and their budget, and what each gets in THE WORST that was asked for last. */
    private static final class Blocks {
        private int number;
        private int budget;
        private final int[] home;
        private final int[] most;
        private final int[] gets;

        private Blocks() {
            number = 0;
            budget = 0;
            home = new int[MOST_BLOCKS];
            most = new int[MOST_BLOCKS];
            gets = new int[MOST_BLOCKS];
        }

        private void clear() {
            number = 0;
            budget = 0;
        }

        private int addBlock(int k, int ofMost) {
            int b = number;
            home[b] = k;
            most[b] = ofMost;
            number++;
            return b;
        }

        private boolean isBlock(int b) {
            return b >= 0 && b < number;
        }

        private void share(Balance balance, int k) {
            for (int b = 0; b < number; b++) {
                gets[b] = NONE;
            }
            int left = budget;
            for (int turn = 0; turn < number; turn++) {
                int b = nextToGet(balance.cell[k]);
                if (b == NONE) {
                    return;
                }
                gets[b] = Math.min(most[b], left);
                left -= gets[b];
            }
        }

        /** Of the blocks that have got nothing yet, the one of the greatest R. */
        private int nextToGet(long[] resistances) {
            int best = NONE;
            for (int b = 0; b < number; b++) {
                if (gets[b] != NONE) {
                    continue;
                }
                if (best == NONE || resistances[home[b]] > resistances[home[best]]) {
                    best = b;
                }
            }
            return best;
        }

        private long worstAbove(Balance balance, int k) {
            share(balance, k);
            long sum = 0;
            for (int b = 0; b < number; b++) {
                sum += balance.cell[k][home[b]] * gets[b];
            }
            return sum;
        }
    }

    /** The search for WIDENED: every row of up to u more that its price does not rule out. */
    private static final class Widening {
        private final Balance[] steps;
        private final int[] row;
        private final int[] bestRow;
        private int bestPrice;
        private int bestMore;
        private int limit;
        private int most;

        private Widening() {
            steps = new Balance[MOST_MORE + 1];
            for (int i = 0; i <= MOST_MORE; i++) {
                steps[i] = new Balance();
            }
            row = new int[MOST_WIRES];
            bestRow = new int[MOST_WIRES];
            bestPrice = NONE;
            bestMore = 0;
            limit = 0;
            most = 0;
        }

        /** The price, NONE or NO. */
        private int search(Net net, int toLimit, int u) {
            if (!steps[0].settle(net, net.padBits)) {
                return NO;
            }
            for (int w = 0; w < MOST_WIRES; w++) {
                row[w] = 0;
            }
            limit = toLimit;
            most = u;
            bestPrice = NONE;
            tryFrom(this, net, 0, 0, 0);
            return bestPrice;
        }

        /**
         * Tries the row as it stands (so many more, for that price), then with
         * one more on each wire from first on: so rows of like many come in
         * the order of the greatest first. More is the depth, three at most.
         */
        private static void tryFrom(Widening all, Net net, int first, int more, int price) {
            if (more < 0 || more > all.most || more > MOST_MORE) {
                return;
            }
            if (all.steps[more].isWithin(all.limit)) {
                all.keepIfBetter(more, price);
            }
            if (more == all.most) {
                return;
            }
            for (int w = first; w < net.wires; w++) {
                int nextPrice = price + net.price[w];
                if (!all.isTooDear(nextPrice) && all.step(net, w, more)) {
                    all.row[w]++;
                    tryFrom(all, net, w, more + 1, nextPrice);
                    all.row[w]--;
                }
            }
        }

        private boolean isTooDear(int price) {
            return bestPrice != NONE && price > bestPrice;
        }

        /** One more on a wire, from the balance of more to the next; false if it can't be. */
        private boolean step(Net net, int w, int more) {
            if (more >= MOST_MORE || net.width[w] + row[w] >= MOST_WIDTH) {
                return false;
            }
            Balance was = steps[more];
            Balance next = steps[more + 1];
            if (!next.alter(was, net.from[w], net.to[w], 1)) {
                return false;
            }
            if (more + 1 < most) {
                next.alterCells(was, 1);
            }
            return true;
        }

        private void keepIfBetter(int more, int price) {
            boolean better = bestPrice == NONE || price < bestPrice
                    || price == bestPrice && more < bestMore;
            if (better) {
                bestPrice = price;
                bestMore = more;
                System.arraycopy(row, 0, bestRow, 0, MOST_WIRES);
            }
        }
    }

    /** The search for THE ORDER in which blocks are WOKEN, over sets of blocks that are awake. */
    private static final class Waking {
        private final long[] least;
        private final long[] awake;
        private final int[] order;

        private Waking() {
            least = new long[1 << MOST_BLOCKS];
            awake = new long[MOST_KNOTS];
            order = new int[MOST_BLOCKS];
        }

        /** least[set]: the least greatest fall with which the others come after set. */
        private void search(Balance balance, Blocks blocks) {
            int all = (1 << blocks.number) - 1;
            least[all] = 0;
            for (int set = all - 1; set >= 0; set--) {
                least[set] = leastAfter(balance, blocks, set);
            }
            int set = 0;
            for (int i = 0; i < blocks.number; i++) {
                int b = firstToCome(balance, blocks, set);
                if (b == NONE) {
                    return;
                }
                order[i] = b;
                set |= 1 << b;
            }
        }

        private long leastAfter(Balance balance, Blocks blocks, int set) {
            weighAwake(balance, blocks, set);
            long best = NONE;
            for (int b = 0; b < blocks.number; b++) {
                if (!has(set, b)) {
                    long peak = Math.max(peakOf(balance, blocks, b), least[set | (1 << b)]);
                    best = best == NONE ? peak : Math.min(best, peak);
                }
            }
            return best;
        }

        /** The least block with which nothing rises above the least that can be. */
        private int firstToCome(Balance balance, Blocks blocks, int set) {
            weighAwake(balance, blocks, set);
            for (int b = 0; b < blocks.number; b++) {
                if (!has(set, b) && least[set | (1 << b)] <= least[0]
                        && peakOf(balance, blocks, b) <= least[0]) {
                    return b;
                }
            }
            return NONE;
        }

        private void weighAwake(Balance balance, Blocks blocks, int set) {
            for (int k = 0; k < balance.knots; k++) {
                long sum = 0;
                for (int b = 0; b < blocks.number; b++) {
                    if (has(set, b)) {
                        sum += balance.cell[k][blocks.home[b]] * blocks.most[b];
                    }
                }
                awake[k] = sum;
            }
        }

        /** The greatest fall as a block comes to those that are awake. */
        private long peakOf(Balance balance, Blocks blocks, int b) {
            long pull = WAKING_TIMES * blocks.most[b];
            long peak = 0;
            for (int k = 0; k < balance.knots; k++) {
                peak = Math.max(peak, awake[k] + balance.cell[k][blocks.home[b]] * pull);
            }
            return peak;
        }
    }
}
