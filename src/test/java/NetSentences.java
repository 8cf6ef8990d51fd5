import java.math.BigInteger;

/** Each sentence of Terms 1: the net, its falls, flows, THE GREATEST and R. */
final class NetSentences {
    private static final String TERMS = "Terms 1";

    private NetSentences() {
    }

    static void all() {
        Sentence.holds(TERMS, "THE NET has KNOTS 0 .. n - 1 (2 .. 7)", NetSentences::knots);
        Sentence.holds(TERMS, "and WIRES 0 .. 11, as they come,", NetSentences::wires);
        Sentence.holds(TERMS, "each between two KNOTS,", NetSentences::betweenTwo);
        Sentence.holds(TERMS, "with a WIDTH (1 .. 6)", NetSentences::widths);
        Sentence.holds(TERMS, "and a PRICE (1 .. 100) for one of WIDTH.", NetSentences::prices);
        Sentence.holds(TERMS, "Some KNOTS are PADS (none at first).", NetSentences::pads);
        Sentence.holds(TERMS, "A KNOT PULLS so much (0 .. 100; 0 at first).", NetSentences::pulls);
        Sentence.holds(TERMS, "THE FALL of a PAD is 0;", NetSentences::padsFall);
        Sentence.holds(TERMS, "those of other KNOTS are the numbers with which each of these BALANCES: the sum over "
                + "its WIRES of WIDTH times (its FALL less that of the other end) is what it PULLS.",
                NetSentences::balances);
        Sentence.holds(TERMS, "THE NET is FED if from each KNOT WIRES lead to a PAD;", NetSentences::fed);
        Sentence.holds(TERMS, "else no FALL is told.", NetSentences::notFed);
        Sentence.holds(TERMS, "(FED, there is just one such row of numbers.)", NetSentences::oneRow);
        Sentence.holds(TERMS, "FRACTIONS are told in lowest terms,", NetSentences::lowestTerms);
        Sentence.holds(TERMS, "below above 0.", NetSentences::belowAbove0);
        Sentence.holds(TERMS, "THE FLOW of a WIRE a, b: WIDTH times (FALL of a less FALL of b).", NetSentences::flows);
        Sentence.holds(TERMS, "THE GREATEST: the KNOT of the greatest FALL,", NetSentences::greatest);
        Sentence.holds(TERMS, "of like ones the least.", NetSentences::greatestOfLike);
        Sentence.holds(TERMS, "R(a, b), for KNOTS: THE FALL of a if b alone PULLED 1", NetSentences::resistance);
        Sentence.holds(TERMS, "(0, if a or b is a PAD).", NetSentences::resistanceOfPads);
    }

    static void dueFall(ChipVolts x, int k, long above, long below) {
        Due.due("fall(" + k + ")", x.fall(k, 0), x.fall(k, 1), above, below);
    }

    static void dueFlow(ChipVolts x, int w, long above, long below) {
        Due.due("flow(" + w + ")", x.flow(w, 0), x.flow(w, 1), above, below);
    }

    static void dueR(ChipVolts x, int a, int b, long above, long below) {
        Due.due("resist(" + a + ", " + b + ")", x.resist(a, b, 0), x.resist(a, b, 1), above, below);
    }

    private static void knots() {
        ChipVolts x = new ChipVolts();
        Due.due("net(1), one too few", x.net(1), -2);
        Due.due("net(8), one too many", x.net(8), -2);
        for (int n = 2; n <= 7; n++) {
            Due.due("net(" + n + ")", x.net(n), 1);
            Due.due("count(0)", x.count(0), n);
            Due.due("the first knot", x.pull(0, 1), 0);
            Due.due("the last knot of " + n, x.pull(n - 1, 2), 0);
            Due.due("ahead of the first", x.pull(-1, 1), -2);
            Due.due("after the last of " + n, x.pull(n, 1), -2);
            Due.due("a wire from the first to the last", x.wire(0, n - 1, 1, 1), 0);
            Due.due("a wire to one after the last", x.wire(0, n, 1, 1), -2);
            Due.due("a block on the last", x.block(n - 1, 1), 0);
            Due.due("a block on one after the last", x.block(n, 1), -2);
            Due.due("the last a pad", x.pad(n - 1, true), 1);
            Due.due("one after the last a pad", x.pad(n, true), -2);
        }
    }

    private static void wires() {
        ChipVolts x = new ChipVolts();
        x.net(7);
        x.pad(0, true);
        for (int w = 0; w < 12; w++) {
            Due.due("wire " + w + " is not yet", x.width(w, 1), -2);
            Due.due("wire " + w, x.wire(w % 6, w % 6 + 1, 1 + w % 6, 1), w);
            Due.due("wire " + w + " is", x.width(w, 1 + w % 6), 1 + w % 6);
            Due.due("how many", x.count(1), w + 1);
        }
        Due.due("the thirteenth", x.wire(0, 1, 1, 1), -4);
        Due.due("wire 11", x.flow(11, 0), 0);
        Due.due("wire 12", x.flow(12, 0), Nets.FLOW_BAD);
        Due.due("wire -1", x.flow(-1, 0), Nets.FLOW_BAD);
    }

    private static void betweenTwo() {
        for (int k = 0; k < 7; k++) {
            ChipVolts x = new ChipVolts();
            x.net(7);
            Due.due("wire from " + k + " to itself", x.wire(k, k, 1, 1), -2);
            Due.due("none came", x.count(1), 0);
            Due.due("to the next", x.wire(k, (k + 1) % 7, 1, 1), 0);
            Due.due("from the next", x.wire((k + 1) % 7, k, 1, 1), 1);
        }
    }

    private static void widths() {
        ChipVolts x = Nets.pair(1, 1);
        x.pull(1, 60);
        dueFall(x, 1, 60, 1);
        for (int v = 1; v <= 6; v++) {
            x.width(0, v);
            dueFall(x, 1, 60 / v, 1);
        }
        Due.due("wire of width 0", x.wire(0, 1, 0, 1), -2);
        Due.due("wire of width 7", x.wire(0, 1, 7, 1), -2);
        Due.due("wire of width 1", x.wire(0, 1, 1, 1), 1);
        Due.due("wire of width 6", x.wire(0, 1, 6, 1), 2);
        Due.due("width 0", x.width(0, 0), -2);
        Due.due("width 7", x.width(0, 7), -2);
        Due.due("width 1", x.width(0, 1), 6);
        Due.due("width 6", x.width(0, 6), 1);
    }

    private static void prices() {
        ChipVolts x = new ChipVolts();
        Due.due("price 0", x.wire(0, 1, 1, 0), -2);
        Due.due("price 101", x.wire(0, 1, 1, 101), -2);
        for (int price : new int[] {1, 2, 99, 100}) {
            x = new ChipVolts();
            Due.due("price " + price, x.wire(0, 1, 1, price), 0);
            x.pad(0, true);
            x.pull(1, 12);
            Due.due("one of width", x.widen(6, 3), price);
            Due.due("two of width", x.widen(4, 3), 2 * price);
            Due.due("three of width", x.widen(3, 3), 3 * price);
        }
    }

    private static void pads() {
        for (int n = 2; n <= 7; n++) {
            ChipVolts x = new ChipVolts();
            x.net(n);
            Due.due("none at first", x.count(2), 0);
            for (int k = 0; k < n; k++) {
                Due.due("knot " + k + " is none", x.pad(k, false), -3);
                Due.due("knot " + k + " becomes one", x.pad(k, true), 1);
                Due.due("how many", x.count(2), k + 1);
            }
            Due.due("all of them", x.count(2), n);
            for (int k = 0; k < n; k++) {
                Due.due("knot " + k + " is one no more", x.pad(k, false), 1);
            }
            Due.due("none again", x.count(2), 0);
        }
    }

    private static void pulls() {
        ChipVolts x = Nets.pair(1, 1);
        dueFall(x, 1, 0, 1);
        Due.due("0 at first", x.pull(1, 0), 0);
        Due.due("-1", x.pull(1, -1), -2);
        Due.due("101", x.pull(1, 101), -2);
        Due.due("100", x.pull(1, 100), 0);
        dueFall(x, 1, 100, 1);
        Due.due("99", x.pull(1, 99), 100);
        Due.due("1", x.pull(1, 1), 99);
        dueFall(x, 1, 1, 1);
        Due.due("0", x.pull(1, 0), 1);
        dueFall(x, 1, 0, 1);
    }

    private static void padsFall() {
        ChipVolts x = Nets.chain(1, 1, 1);
        x.pull(0, 100);
        x.pull(2, 100);
        x.pull(3, 100);
        dueFall(x, 0, 0, 1);
        dueFall(x, 2, 400, 1);
        x.pad(2, true);
        dueFall(x, 2, 0, 1);
        dueFall(x, 1, 0, 1);
        dueFall(x, 3, 100, 1);
        ChipVolts all = Nets.allPads();
        for (int k = 0; k < 7; k++) {
            all.pull(k, 100);
            dueFall(all, k, 0, 1);
        }
    }

    /** The sum over its wires, as one fraction of whole numbers of any size. */
    private static void dueBalance(ChipVolts x, int[][] ends, int[] widths, int k, int pull) {
        BigInteger above = BigInteger.ZERO;
        BigInteger below = BigInteger.ONE;
        for (int w = 0; w < ends.length; w++) {
            boolean has = ends[w][0] == k || ends[w][1] == k;
            int other = ends[w][0] + ends[w][1] - k;
            for (int side = 0; has && side < 2; side++) {
                long times = side == 0 ? widths[w] : -widths[w];
                int knot = side == 0 ? k : other;
                BigInteger more = BigInteger.valueOf(times * x.fall(knot, 0));
                BigInteger by = BigInteger.valueOf(x.fall(knot, 1));
                above = above.multiply(by).add(more.multiply(below));
                below = below.multiply(by);
            }
        }
        Due.due("knot " + k + " balances", above.equals(below.multiply(BigInteger.valueOf(pull))) ? 1 : 0, 1);
    }

    private static void balances() {
        ChipVolts least = Nets.pair(1, 1);
        least.pull(1, 1);
        dueBalance(least, new int[][] {{0, 1}}, new int[] {1}, 1, 1);
        int[] six = {6, 6, 6, 6, 6, 6, 6, 6, 6, 6, 6, 6};
        int[] mixed = {1, 6, 2, 5, 3, 4, 1, 1, 6, 6, 2, 3};
        for (int[] widths : new int[][] {six, mixed}) {
            for (int pad = 0; pad < 7; pad++) {
                ChipVolts x = Nets.unfed();
                x.pad(pad, true);
                for (int w = 0; w < 12; w++) {
                    x.width(w, widths[w]);
                }
                for (int k = 0; k < 7; k++) {
                    x.pull(k, widths == six ? 100 : 16 * k);
                }
                for (int k = 0; k < 7; k++) {
                    if (k != pad) {
                        dueBalance(x, Nets.FULLEST_ENDS, widths, k, widths == six ? 100 : 16 * k);
                    }
                }
            }
        }
    }

    private static void fed() {
        ChipVolts x = new ChipVolts();
        Due.due("no pads, no wires", x.count(5), 0);
        x.wire(0, 1, 1, 1);
        Due.due("no pads", x.count(5), 0);
        x.pad(1, true);
        Due.due("the least net", x.count(5), 1);
        x.pad(0, true);
        Due.due("pads alone", x.count(5), 1);
        Due.due("seven pads, no wires", Nets.allPads().count(5), 1);
        ChipVolts but = Nets.allPads();
        but.pad(3, false);
        Due.due("six pads, one knot without a wire", but.count(5), 0);
        but.wire(6, 3, 1, 1);
        Due.due("now its wire leads to a pad", but.count(5), 1);
        ChipVolts far = Nets.chain(1, 1, 1, 1, 1, 1);
        Due.due("six wires to the only pad", far.count(5), 1);
        far.pad(0, false);
        Due.due("none", far.count(5), 0);
        far.pad(6, true);
        Due.due("from the other end", far.count(5), 1);
        fedInParts();
    }

    /** Parts that are not joined: each needs a pad of its own. */
    private static void fedInParts() {
        ChipVolts x = new ChipVolts();
        x.net(7);
        int[][] ends = {{0, 1}, {1, 2}, {2, 0}, {3, 4}, {5, 6}};
        for (int[] e : ends) {
            x.wire(e[0], e[1], 1, 1);
        }
        x.pad(0, true);
        Due.due("a pad in one of three parts", x.count(5), 0);
        x.pad(4, true);
        Due.due("in two of three", x.count(5), 0);
        x.pad(6, true);
        Due.due("in all", x.count(5), 1);
        x.pad(0, false);
        Due.due("in the last two of three", x.count(5), 0);
    }

    private static void notFed() {
        ChipVolts x = new ChipVolts();
        x.net(4);
        x.wire(0, 1, 1, 1);
        x.wire(1, 2, 1, 1);
        x.pad(0, true);
        x.pull(1, 5);
        for (int k = 0; k < 4; k++) {
            Due.due("fall(" + k + ", 0), though 3 alone is cut off", x.fall(k, 0), -3);
            Due.due("fall(" + k + ", 1)", x.fall(k, 1), -3);
        }
        x.pad(3, true);
        dueFall(x, 3, 0, 1);
        dueFall(x, 2, 5, 1);
        x.pad(3, false);
        Due.due("again", x.fall(2, 0), -3);
    }

    private static void oneRow() {
        ChipVolts x = Nets.fullest();
        ChipVolts y = new ChipVolts();
        y.net(7);
        for (int w = 11; w >= 0; w--) {
            y.wire(Nets.FULLEST_ENDS[w][1], Nets.FULLEST_ENDS[w][0], 6, 1);
        }
        y.pad(6, true);
        for (int k = 6; k >= 0; k--) {
            y.pull(k, 100);
        }
        for (int k = 0; k < 7; k++) {
            dueFall(y, k, x.fall(k, 0), x.fall(k, 1));
        }
        for (int k = 6; k >= 0; k--) {
            dueFall(x, k, y.fall(k, 0), y.fall(k, 1));
        }
    }

    private static void lowestTerms() {
        ChipVolts x = Nets.pair(6, 1);
        dueFall(x, 1, 0, 1);
        int[][] due = {{1, 1, 6}, {2, 1, 3}, {3, 1, 2}, {4, 2, 3}, {5, 5, 6}, {6, 1, 1}, {7, 7, 6}, {100, 50, 3}};
        for (int[] d : due) {
            x.pull(1, d[0]);
            dueFall(x, 1, d[1], d[2]);
        }
        ChipVolts y = Nets.chain(6, 6, 6, 6, 6, 6);
        y.pull(6, 100);
        dueFall(y, 6, 100, 1);
        dueFall(y, 1, 50, 3);
        dueR(y, 6, 6, 1, 1);
        dueR(y, 3, 5, 1, 2);
        dueFlow(y, 5, -100, 1);
    }

    private static void belowAbove0() {
        ChipVolts x = Nets.chain(2, 2);
        x.wire(0, 2, 1, 1);
        x.pull(1, 3);
        x.pull(2, 4);
        dueFlow(x, 0, -17, 4);
        dueFlow(x, 1, -5, 4);
        dueFlow(x, 2, -11, 4);
        ChipVolts all = Nets.fullest();
        for (int w = 0; w < 12; w++) {
            Due.due("below of flow " + w, all.flow(w, 1) > 0 ? 1 : 0, 1);
            Due.due("below without wire " + w, all.open(w, 1) > 0 ? 1 : 0, 1);
        }
        for (int k = 0; k < 7; k++) {
            Due.due("below of fall " + k, all.fall(k, 1) > 0 ? 1 : 0, 1);
            Due.due("below of worst " + k, all.worstFall(k, 1) > 0 ? 1 : 0, 1);
            Due.due("below of R", all.resist(k, 0, 1) > 0 ? 1 : 0, 1);
        }
    }

    private static void flows() {
        ChipVolts x = Nets.chain(6, 1);
        x.wire(2, 1, 2, 1);
        x.pull(2, 12);
        // falls 0, 2, 6
        dueFlow(x, 0, -12, 1);
        dueFlow(x, 1, -4, 1);
        dueFlow(x, 2, 8, 1);
        x.pull(2, 0);
        dueFlow(x, 0, 0, 1);
        dueFlow(x, 2, 0, 1);
        x.pull(2, 12);
        x.pad(1, true);
        // from a pad to a pad nothing flows
        dueFlow(x, 0, 0, 1);
        dueFlow(x, 1, -4, 1);
        dueFlow(x, 2, 8, 1);
    }

    private static void greatest() {
        ChipVolts x = Nets.chain(1, 1, 1, 1, 1, 1);
        x.pull(6, 1);
        Due.due("the last", x.greatest(), 6);
        x.pad(6, true);
        x.pull(5, 1);
        Due.due("the last but one", x.greatest(), 5);
        x.pull(1, 2);
        // falls 1: (2 * 5 + 1) / 6, 5: (2 + 5) / 6
        Due.due("the first that is no pad", x.greatest(), 1);
        x.pad(0, false);
        Due.due("the first", x.greatest(), 0);
    }

    private static void greatestOfLike() {
        ChipVolts x = Nets.chain(1, 1, 1);
        Due.due("all 0", x.greatest(), 0);
        x.pad(0, false);
        x.pad(3, true);
        Due.due("all 0, the pad is the last", x.greatest(), 0);
        x.pull(0, 1);
        x.pad(0, true);
        Due.due("all 0, what a pad pulls", x.greatest(), 0);
        x.pull(1, 6);
        x.pull(2, 6);
        Due.due("1 and 2 alike", x.greatest(), 1);
        x.pull(2, 7);
        Due.due("2 above 1 by a little", x.greatest(), 2);
        x.pad(3, false);
        x.pull(1, 0);
        Due.due("2 and 3 alike", x.greatest(), 2);
        Due.due("all pads", Nets.allPads().greatest(), 0);
    }

    private static void resistance() {
        ChipVolts x = Nets.chain(2, 3);
        x.wire(0, 2, 1, 1);
        long above = x.resist(1, 2, 0);
        x.pull(1, 100);
        x.pull(2, 100);
        Due.due("what is pulled else does not count", x.resist(1, 2, 0), above);
        for (int b = 1; b <= 2; b++) {
            for (int a = 0; a <= 2; a++) {
                ChipVolts one = Nets.chain(2, 3);
                one.wire(0, 2, 1, 1);
                one.pull(b, 1);
                dueR(x, a, b, one.fall(a, 0), one.fall(a, 1));
            }
        }
        // (5, -3; -3, 4) turned round: (4, 3; 3, 5) by 11
        dueR(x, 1, 1, 4, 11);
        dueR(x, 1, 2, 3, 11);
        dueR(x, 2, 1, 3, 11);
        dueR(x, 2, 2, 5, 11);
    }

    private static void resistanceOfPads() {
        ChipVolts x = Nets.chain(2, 3);
        x.pad(2, true);
        dueR(x, 0, 1, 0, 1);
        dueR(x, 1, 0, 0, 1);
        dueR(x, 2, 1, 0, 1);
        dueR(x, 1, 2, 0, 1);
        dueR(x, 0, 0, 0, 1);
        dueR(x, 0, 2, 0, 1);
        dueR(x, 2, 2, 0, 1);
        dueR(x, 1, 1, 1, 5);
        // in a part of its own it does not fall with another
        ChipVolts parts = new ChipVolts();
        parts.net(4);
        parts.wire(0, 1, 1, 1);
        parts.wire(2, 3, 1, 1);
        parts.pad(0, true);
        parts.pad(3, true);
        dueR(parts, 1, 2, 0, 1);
        dueR(parts, 2, 2, 1, 1);
    }
}
