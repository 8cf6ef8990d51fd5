/**
 * Runs of calls on ChipVolts and on PlainVolts side by side, picked by a
 * counter that is the same each time, to the 512th call and beyond; and nets as
 * heavy as they can be.
 */
public final class AgainstPlainTest {
    private static final int LOW = Integer.MIN_VALUE, HIGH = Integer.MAX_VALUE;
    private static final int MIXED_RUNS = 250, HEAVY_RUNS = 25, LONG_RUNS = 6;
    private static final int CALLS_OF_AN_OBJECT = 512;
    private static final int[] WRONG = {LOW, LOW + 1, -7, -1, 7, 8, 12, 31, 32, 33, 64, 101, 1001, HIGH};

    private long seed;
    private ChipVolts x;
    private PlainVolts y;
    private int run;
    private int dear;

    private AgainstPlainTest() {
    }

    public static void main(String[] args) {
        AgainstPlainTest t = new AgainstPlainTest();
        for (int run = 0; run < MIXED_RUNS && Due.wrongSoFar() < 50; run++) {
            t.start(run);
            t.mixedRun(60 + t.below(200));
        }
        for (int run = 0; run < HEAVY_RUNS && Due.wrongSoFar() < 50; run++) {
            t.start(100000 + run);
            t.heavyRun();
        }
        for (int run = 0; run < LONG_RUNS && Due.wrongSoFar() < 50; run++) {
            t.start(200000 + run);
            t.mixedRun(CALLS_OF_AN_OBJECT);
        }
        Due.end("AgainstPlainTest");
    }

    private void start(int number) {
        run = number;
        seed = 7919L * number + 17;
        x = new ChipVolts();
        y = new PlainVolts();
        dear = 0;
    }

    private int below(int bound) {
        seed = seed * 6364136223846793005L + 1442695040888963407L;
        return (int) ((seed >>> 33) % bound);
    }

    /** Mostly from least to most, at times just beside, at times far off. */
    private int pick(int least, int most) {
        int dice = below(100);
        if (dice < 95) {
            return least + below(most - least + 1);
        }
        if (dice < 98) {
            return below(2) == 0 ? least - 1 : most + 1;
        }
        return WRONG[below(WRONG.length)];
    }

    private int knot() {
        return pick(0, Math.max(1, x.count(0) - 1));
    }

    private int wireNumber() {
        return pick(0, Math.max(0, x.count(1) - 1));
    }

    private int what() {
        return pick(0, 1);
    }

    private void same(String call, long got, long want) {
        Due.due("run " + run + ": " + call, got, want);
    }

    private void mixedRun(int calls) {
        doNet(2 + below(6));
        for (int i = 0; i < 3 + below(12); i++) {
            doWire();
        }
        if (below(5) != 0) {
            doPad(below(x.count(0)), true);
        }
        for (int i = 0; i < calls; i++) {
            oneCall();
        }
        doDigest();
    }

    private void oneCall() {
        int dice = below(100);
        if (dice < 40) {
            change(dice);
        } else if (dice < 88) {
            askCheap(dice);
        } else {
            askDear(dice);
        }
    }

    private void change(int dice) {
        if (dice < 1) {
            doNet(pick(2, 7));
        } else if (dice < 10) {
            doWire();
        } else if (dice < 15) {
            int w = wireNumber();
            int v = pick(1, 6);
            same("width(" + w + ", " + v + ")", x.width(w, v), y.width(w, v));
        } else if (dice < 20) {
            doPad(knot(), below(3) != 0);
        } else if (dice < 30) {
            int k = knot();
            int v = pick(0, 100);
            same("pull(" + k + ", " + v + ")", x.pull(k, v), y.pull(k, v));
        } else if (dice < 36) {
            int k = knot();
            int most = pick(1, 20);
            same("block(" + k + ", " + most + ")", x.block(k, most), y.block(k, most));
        } else {
            int v = pick(0, 100);
            same("budget(" + v + ")", x.budget(v), y.budget(v));
        }
    }

    private void doNet(int n) {
        same("net(" + n + ")", x.net(n), y.net(n));
    }

    private void doWire() {
        int a = knot();
        int b = knot();
        int width = pick(1, 6);
        int price = below(2) == 0 ? pick(1, 3) : pick(1, 100);
        same("wire(" + a + ", " + b + ", " + width + ", " + price + ")",
                x.wire(a, b, width, price), y.wire(a, b, width, price));
    }

    private void doPad(int k, boolean is) {
        same("pad(" + k + ", " + is + ")", x.pad(k, is), y.pad(k, is));
    }

    private void doDigest() {
        same("digest()", x.digest(), y.digest());
    }

    private void askCheap(int dice) {
        int a = knot();
        int b = knot();
        int w = wireNumber();
        int what = what();
        if (dice < 46) {
            same("fall(" + a + ", " + what + ")", x.fall(a, what), y.fall(a, what));
        } else if (dice < 49) {
            same("greatest()", x.greatest(), y.greatest());
        } else if (dice < 54) {
            same("flow(" + w + ", " + what + ")", x.flow(w, what), y.flow(w, what));
        } else if (dice < 59) {
            same("resist(" + a + ", " + b + ", " + what + ")", x.resist(a, b, what), y.resist(a, b, what));
        } else if (dice < 63) {
            int block = pick(0, 5);
            same("worst(" + a + ", " + block + ")", x.worst(a, block), y.worst(a, block));
        } else if (dice < 66) {
            same("worstFall(" + a + ", " + what + ")", x.worstFall(a, what), y.worstFall(a, what));
        } else if (dice < 68) {
            same("worstKnot()", x.worstKnot(), y.worstKnot());
        } else if (dice < 72) {
            same("open(" + w + ", " + what + ")", x.open(w, what), y.open(w, what));
        } else if (dice < 74) {
            same("weakest()", x.weakest(), y.weakest());
        } else if (dice < 84) {
            int ports = below(4) == 0 ? pick(1, 127) : below(1 << x.count(0)) | 1 << (a & 7) | 1 << (b & 7);
            same("shrunk(" + ports + ", " + a + ", " + b + ", " + what + ")",
                    x.shrunk(ports, a, b, what), y.shrunk(ports, a, b, what));
        } else if (dice < 86) {
            int c = pick(0, 5);
            same("count(" + c + ")", x.count(c), y.count(c));
        } else {
            doDigest();
        }
    }

    private void askDear(int dice) {
        if (dice < 91) {
            int j = pick(1, 3);
            same("pads(" + j + ")", x.pads(j), y.pads(j));
        } else if (dice < 95) {
            askWidening();
        } else if (++dear < 6) {
            int i = pick(0, 5);
            int what = what();
            same("woken(" + i + ")", x.woken(i), y.woken(i));
            same("wokenFall(" + what + ")", x.wokenFall(what), y.wokenFall(what));
        }
    }

    private void askWidening() {
        long above = x.fall(Math.max(0, x.greatest()), 0);
        long below = Math.max(1, x.fall(Math.max(0, x.greatest()), 1));
        int near = (int) Math.max(0, Math.min(1000, above / below));
        int limit = below(3) == 0 ? pick(0, 1000) : pick(near - Math.min(near, 1 + near / 3), near);
        int u = pick(0, below(3) == 0 ? 3 : 2);
        same("widen(" + limit + ", " + u + ")", x.widen(limit, u), y.widen(limit, u));
        int w = wireNumber();
        same("widened(" + limit + ", " + u + ", " + w + ")", x.widened(limit, u, w), y.widened(limit, u, w));
    }

    /** Seven knots, twelve wires of the utmost width, the utmost pulls: the greatest numbers. */
    private void heavyRun() {
        doNet(7);
        for (int k = 0; k < 7; k++) {
            int to = (k + 1) % 7;
            int width = run % 2 == 0 ? 6 : 4 + below(3);
            same("wire", x.wire(k, to, width, 1), y.wire(k, to, width, 1));
            same("pull", x.pull(k, 100), y.pull(k, 100));
        }
        for (int i = 0; i < 5; i++) {
            int a = below(7);
            int b = (a + 2 + below(4)) % 7;
            int width = run % 2 == 0 ? 6 : 4 + below(3);
            same("wire", x.wire(a, b, width, 1), y.wire(a, b, width, 1));
        }
        for (int i = 0; i < 6; i++) {
            int k = below(7);
            same("block", x.block(k, 20), y.block(k, 20));
        }
        same("budget", x.budget(100), y.budget(100));
        doPad(below(7), true);
        askAll();
    }

    private void askAll() {
        for (int what = 0; what <= 1; what++) {
            for (int a = 0; a < 7; a++) {
                same("worstFall", x.worstFall(a, what), y.worstFall(a, what));
                for (int b = 0; b < 7; b++) {
                    same("resist", x.resist(a, b, what), y.resist(a, b, what));
                    int ports = below(128) | 1 << a | 1 << b;
                    same("shrunk", x.shrunk(ports, a, b, what), y.shrunk(ports, a, b, what));
                }
            }
            for (int w = 0; w < 12; w++) {
                same("flow", x.flow(w, what), y.flow(w, what));
                same("open", x.open(w, what), y.open(w, what));
            }
        }
        for (int j = 1; j <= 3; j++) {
            same("pads", x.pads(j), y.pads(j));
        }
        same("weakest", x.weakest(), y.weakest());
        same("worstKnot", x.worstKnot(), y.worstKnot());
        same("widen", x.widen(x.greatest() * 9, 2), y.widen(x.greatest() * 9, 2));
        askWidening();
        doDigest();
    }
}
