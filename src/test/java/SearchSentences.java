import java.util.Arrays;

/** Each sentence of Terms 3: SHRUNK, BEST PADS, WIDENED, WOKEN. */
final class SearchSentences {
    private static final String TERMS = "Terms 3";

    private SearchSentences() {
    }

    static void all() {
        shrunk();
        pads();
        widened();
        woken();
    }

    private static void shrunk() {
        Sentence.holds(TERMS, "SHRUNK to PORTS (a set of KNOTS in which are all PADS;", SearchSentences::allPadsIn);
        Sentence.holds(TERMS, "and from each KNOT that is not in it WIRES have to lead to one that is):",
                SearchSentences::leadToPorts);
        Sentence.holds(TERMS, "widths W(a, b) between PORTS (at first the sum of WIDTHS of WIRES between both),",
                SearchSentences::atFirst);
        Sentence.holds(TERMS, "so that whatever PORTS PULL, and none else, THE FALLS at them are as in THE NET:",
                SearchSentences::fallsAreAsInNet);
        Sentence.holds(TERMS, "by taking out the other KNOTS one by one, the greatest number first:",
                SearchSentences::oneByOne);
        Sentence.holds(TERMS, "W(a, b) grows by W(a, x) W(x, b) by the sum of all W(x, ..).", SearchSentences::grows);
    }

    private static void pads() {
        Sentence.holds(TERMS, "BEST PADS of j (1 .. 3) KNOTS: the set, as bits,", SearchSentences::setAsBits);
        Sentence.holds(TERMS, "with which, for PULLS as told, THE NET is FED", SearchSentences::bestIsFed);
        Sentence.holds(TERMS, "and its greatest FALL least;", SearchSentences::bestIsLeast);
        Sentence.holds(TERMS, "of like ones the least number.", SearchSentences::bestOfLike);
    }

    private static void widened() {
        Sentence.holds(TERMS, "WIDENED within a limit (0 .. 1000)", SearchSentences::limit);
        Sentence.holds(TERMS, "by up to u (0 .. 3) more of WIDTH in all", SearchSentences::more);
        Sentence.holds(TERMS, "(none above 6):", SearchSentences::noneAbove6);
        Sentence.holds(TERMS, "the least price", SearchSentences::leastPrice);
        Sentence.holds(TERMS, "by which no FALL is above the limit;", SearchSentences::noneAboveLimit);
        Sentence.holds(TERMS, "of like ones the fewest,", SearchSentences::fewest);
        Sentence.holds(TERMS, "then the row by WIRES (how many each) that is the greatest at the first that differs.",
                SearchSentences::greatestRow);
    }

    private static void woken() {
        Sentence.holds(TERMS, "WOKEN: BLOCKS come one by one; as one comes it PULLS 3 times its MOST,",
                SearchSentences::threeTimes);
        Sentence.holds(TERMS, "from then on its MOST.", SearchSentences::fromThenOn);
        Sentence.holds(TERMS, "THE ORDER of all BLOCKS", SearchSentences::allBlocks);
        Sentence.holds(TERMS, "(and no other PULLS):", SearchSentences::noOtherPulls);
        Sentence.holds(TERMS, "that in which the greatest FALL at any KNOT as any one comes is least;",
                SearchSentences::leastOrder);
        Sentence.holds(TERMS, "of like ones the first by numbers.", SearchSentences::firstByNumbers);
    }

    static void dueW(ChipVolts x, int ports, int a, int b, long above, long below) {
        String call = "shrunk(" + ports + ", " + a + ", " + b + ")";
        Due.due(call, x.shrunk(ports, a, b, 0), x.shrunk(ports, a, b, 1), above, below);
        Due.due(call + " turned", x.shrunk(ports, b, a, 0), x.shrunk(ports, b, a, 1), above, below);
    }

    static void dueWidened(ChipVolts x, int limit, int u, int price, int... row) {
        Due.due("widen(" + limit + ", " + u + ")", x.widen(limit, u), price);
        for (int w = 0; w < row.length; w++) {
            Due.due("widened(" + limit + ", " + u + ", " + w + ")", x.widened(limit, u, w), row[w]);
        }
    }

    static void dueWoken(ChipVolts x, long above, long below, int... order) {
        for (int i = 0; i < order.length; i++) {
            Due.due("woken(" + i + ")", x.woken(i), order[i]);
        }
        Due.due("woken, one too many", x.woken(order.length), -1);
        Due.due("wokenFall", x.wokenFall(0), x.wokenFall(1), above, below);
    }

    private static void allPadsIn() {
        ChipVolts x = Nets.chain(1, 1, 1);
        dueW(x, 15, 0, 3, 0, 1);
        dueW(x, 11, 0, 1, 1, 1);
        Due.due("pad 0 is not in", x.shrunk(14, 1, 2, 0), -3);
        x.pad(3, true);
        dueW(x, 9, 0, 3, 1, 3);
        Due.due("pad 3 is not in", x.shrunk(7, 0, 1, 0), -3);
        Due.due("neither is in", x.shrunk(6, 1, 2, 0), -3);
        x.pad(0, false);
        Due.due("pad 3 is not in", x.shrunk(7, 0, 1, 0), -3);
        x.pad(3, false);
        dueW(x, 6, 1, 2, 1, 1);
        ChipVolts all = Nets.allPads();
        dueW(all, 127, 0, 6, 0, 1);
        Due.due("six of seven pads", all.shrunk(63, 0, 5, 0), -3);
        Due.due("the other six of seven", all.shrunk(126, 1, 6, 0), -3);
    }

    private static void leadToPorts() {
        ChipVolts x = new ChipVolts();
        x.net(5);
        x.wire(0, 1, 3, 1);
        dueW(x, 31, 0, 1, 3, 1);
        Due.due("4 has no wire", x.shrunk(15, 0, 1, 0), -3);
        x.wire(4, 3, 1, 1);
        dueW(x, 15, 0, 1, 3, 1);
        Due.due("4 and 3 lead to each other alone", x.shrunk(7, 0, 1, 0), -3);
        dueW(x, 23, 0, 1, 3, 1);
        x.wire(3, 2, 1, 1);
        dueW(x, 7, 0, 1, 3, 1);
        Due.due("2, 3 and 4 lead nowhere", x.shrunk(3, 0, 1, 0), -3);
        x.wire(2, 1, 1, 1);
        dueW(x, 3, 0, 1, 3, 1);
        dueW(x, 17, 0, 4, 3, 10);
        ChipVolts far = Nets.chain(1, 1, 1, 1, 1, 1);
        dueW(far, 3, 0, 1, 1, 1);
        dueW(far, 65, 0, 6, 1, 6);
    }

    private static void atFirst() {
        ChipVolts x = Nets.cable(12, 6);
        dueW(x, 3, 0, 1, 72, 1);
        x.width(11, 1);
        dueW(x, 3, 0, 1, 67, 1);
        ChipVolts turned = Nets.pair(2, 1);
        turned.wire(1, 0, 3, 1);
        dueW(turned, 3, 0, 1, 5, 1);
        dueW(new ChipVolts(), 3, 0, 1, 0, 1);
        ChipVolts full = Nets.fullest();
        for (int[] ends : Nets.FULLEST_ENDS) {
            dueW(full, 127, ends[0], ends[1], 6, 1);
        }
        dueW(full, 127, 0, 2, 0, 1);
    }

    /** Told four times as wide, the shrunk net is of whole widths and can be told, too: its falls are a quarter. */
    private static void fallsAreAsInNet() {
        ChipVolts x = new ChipVolts();
        x.net(5);
        int[][] wires = {{0, 1, 2}, {1, 2, 1}, {0, 4, 6}, {1, 4, 3}, {2, 4, 3}, {0, 3, 4}, {2, 3, 4}};
        for (int[] w : wires) {
            x.wire(w[0], w[1], w[2], 1);
        }
        x.pad(0, true);
        // 4 taken out, 0-1 and 0-2 grow by 18/12, 1-2 by 9/12; then 3, 0-2 by 16/8
        dueW(x, 7, 0, 1, 7, 2);
        dueW(x, 7, 0, 2, 7, 2);
        dueW(x, 7, 1, 2, 7, 4);
        ChipVolts shrunk = new ChipVolts();
        shrunk.net(3);
        int[][] four = {{0, 1, 6}, {0, 1, 6}, {0, 1, 2}, {0, 2, 6}, {0, 2, 6}, {0, 2, 2}, {1, 2, 6}, {1, 2, 1}};
        for (int[] w : four) {
            shrunk.wire(w[0], w[1], w[2], 1);
        }
        shrunk.pad(0, true);
        for (int[] pulls : new int[][] {{0, 0}, {1, 0}, {0, 1}, {100, 100}, {100, 3}, {17, 64}}) {
            for (int k = 1; k <= 2; k++) {
                x.pull(k, pulls[k - 1]);
                shrunk.pull(k, pulls[k - 1]);
            }
            for (int k = 1; k <= 2; k++) {
                long differs = x.fall(k, 0) * shrunk.fall(k, 1) - 4 * shrunk.fall(k, 0) * x.fall(k, 1);
                Due.due("fall(" + k + ") less that of the shrunk", differs, 0);
            }
        }
        x.pull(1, 5);
        dueW(x, 7, 0, 1, 7, 2);
    }

    private static void oneByOne() {
        // a row: whatever stays, widths in between join by 1 / sum of 1 / width
        ChipVolts x = Nets.chain(6, 3, 2, 1, 6, 3);
        dueW(x, 127, 2, 3, 2, 1);
        dueW(x, 65, 0, 6, 2, 5);
        dueW(x, 5, 0, 2, 2, 1);
        dueW(x, 9, 0, 3, 1, 1);
        dueW(x, 85, 0, 2, 2, 1);
        dueW(x, 85, 2, 4, 2, 3);
        dueW(x, 85, 4, 6, 2, 1);
        dueW(x, 85, 0, 6, 0, 1);
        dueW(x, 3, 0, 1, 6, 1);
    }

    private static void grows() {
        ChipVolts x = new ChipVolts();
        x.net(4);
        x.wire(0, 3, 2, 1);
        x.wire(1, 3, 3, 1);
        x.wire(2, 3, 1, 1);
        x.wire(0, 1, 4, 1);
        dueW(x, 15, 0, 1, 4, 1);
        dueW(x, 7, 0, 1, 5, 1);
        dueW(x, 7, 0, 2, 1, 3);
        dueW(x, 7, 1, 2, 1, 2);
        // then 2: 5 + (1/3 * 1/2) / (5/6)
        dueW(x, 3, 0, 1, 26, 5);
        // a wire to another that is taken out counts in the sum
        x.wire(2, 3, 5, 1);
        dueW(x, 3, 0, 1, 26, 5);
        ChipVolts end = Nets.chain(5, 6);
        dueW(end, 3, 0, 1, 5, 1);
    }

    private static void setAsBits() {
        for (int n = 3; n <= 7; n++) {
            for (int k = 0; k < n; k++) {
                int[] widths = new int[n - 1];
                Arrays.fill(widths, 6);
                ChipVolts x = Nets.chain(widths);
                x.pull(k, 1);
                Due.due("pads(1), " + k + " alone pulls", x.pads(1), 1 << k);
                x.pull((k + 1) % n, 50);
                Due.due("pads(2), the next too", x.pads(2), 1 << k | 1 << (k + 1) % n);
                x.pull((k + 2) % n, 100);
                Due.due("pads(3), three", x.pads(3), 1 << k | 1 << (k + 1) % n | 1 << (k + 2) % n);
            }
        }
        Due.due("pads(0)", Nets.chain(1, 1, 1).pads(0), -2);
        Due.due("pads(4)", Nets.chain(1, 1, 1).pads(4), -2);
    }

    private static void bestIsFed() {
        ChipVolts x = new ChipVolts();
        x.net(6);
        x.wire(0, 1, 1, 1);
        x.wire(2, 3, 1, 1);
        x.wire(4, 5, 1, 1);
        x.pull(0, 100);
        x.pull(1, 99);
        x.pull(3, 1);
        Due.due("three parts, one pad", x.pads(1), -3);
        Due.due("three parts, two pads", x.pads(2), -3);
        // 0 and 1 would both be pads, but each part needs one
        Due.due("three parts, three pads", x.pads(3), 1 | 4 | 16);
        x.pull(1, 100);
        x.pull(0, 99);
        Due.due("as pulls are told", x.pads(3), 2 | 4 | 16);
        x.wire(1, 2, 6, 1);
        Due.due("two parts, one pad", x.pads(1), -3);
        x.pad(0, true);
        x.pad(5, true);
        Due.due("what are pads now does not count", x.pads(1), -3);
    }

    private static void bestIsLeast() {
        ChipVolts x = Nets.chain(1, 1, 1, 1);
        x.pull(0, 3);
        x.pull(4, 4);
        for (int pad = 0; pad < 5; pad++) {
            ChipVolts one = Nets.chain(1, 1, 1, 1);
            one.pad(0, false);
            one.pad(pad, true);
            one.pull(0, 3);
            one.pull(4, 4);
            Due.due("the greatest with " + pad, one.fall(one.greatest(), 0), Math.max(3 * pad, 4 * (4 - pad)));
        }
        Due.due("the least of 16, 12, 8, 9, 12", x.pads(1), 4);
        x.pull(4, 9);
        // 36, 27, 18, 9, 12
        Due.due("the least of 36, 27, 18, 9, 12", x.pads(1), 8);
        Due.due("both ends", x.pads(2), 17);
        x.pull(2, 1);
        // a third pad: where it pulls
        Due.due("all that pull", x.pads(3), 21);
        ChipVolts parts = Nets.chain(5, 3);
        parts.pull(0, 4);
        parts.pull(2, 3);
        // 3/5 + 3/3; 4/5 and 3/3; 4/5 + 4/3
        Due.due("the least of 8/5, 1, 32/15", parts.pads(1), 2);
        parts.pull(0, 6);
        parts.pull(2, 2);
        // 2/5 + 2/3; 6/5 and 2/3; 6/5 + 6/3
        Due.due("the least of 16/15, 6/5, 16/5", parts.pads(1), 1);
    }

    private static void bestOfLike() {
        ChipVolts x = Nets.chain(1, 1, 1, 1, 1, 1);
        Due.due("nothing is pulled", x.pads(1), 1);
        Due.due("nothing is pulled", x.pads(2), 3);
        Due.due("nothing is pulled", x.pads(3), 7);
        x.pull(0, 1);
        x.pull(1, 1);
        // 0 leaves 1 at 1, 1 leaves 1 at 0
        Due.due("0 or 1", x.pads(1), 1);
        x.pull(1, 0);
        x.pull(6, 1);
        // 3 leaves 3 at both ends
        Due.due("the middle", x.pads(1), 8);
        x.pull(6, 0);
        x.pull(0, 0);
        x.pull(5, 1);
        Due.due("5 with the least", x.pads(2), 33);
        Due.due("5 with the two least", x.pads(3), 35);
        ChipVolts pair = Nets.pair(1, 1);
        Due.due("both", pair.pads(2), 3);
        pair.pad(0, false);
        Due.due("the first", pair.pads(1), 1);
        pair.pull(0, 1);
        pair.pull(1, 1);
        Due.due("0 or 1", pair.pads(1), 1);
        pair.pull(1, 2);
        Due.due("1", pair.pads(1), 2);
    }

    private static void limit() {
        ChipVolts x = Nets.chain(1, 1, 1, 1, 1, 1);
        Due.due("widen(-1, 0)", x.widen(-1, 0), -2);
        Due.due("widen(1001, 0)", x.widen(1001, 0), -2);
        dueWidened(x, 0, 0, 0, 0, 0, 0, 0, 0, 0);
        x.pull(6, 1);
        dueWidened(x, 0, 3, -1, -1, -1);
        dueWidened(x, 6, 0, 0, 0, 0);
        x.pull(6, 100);
        for (int k = 1; k <= 4; k++) {
            x.pull(k, 40);
        }
        // 600 + 40 (1 + 2 + 3 + 4) = 1000
        NetSentences.dueFall(x, 6, 1000, 1);
        dueWidened(x, 1000, 0, 0, 0, 0, 0, 0, 0, 0);
        dueWidened(x, 999, 0, -1, -1);
        dueWidened(x, 999, 1, 1, 1, 0, 0, 0, 0, 0);
        x.pull(1, 41);
        NetSentences.dueFall(x, 6, 1001, 1);
        dueWidened(x, 1000, 0, -1, -1);
        dueWidened(x, 1000, 1, 1, 1, 0, 0, 0, 0, 0);
    }

    private static void more() {
        ChipVolts x = Nets.pair(1, 7);
        x.pull(1, 12);
        Due.due("widen(12, -1)", x.widen(12, -1), -2);
        Due.due("widen(12, 4)", x.widen(12, 4), -2);
        dueWidened(x, 12, 0, 0, 0);
        dueWidened(x, 11, 0, -1, -1);
        dueWidened(x, 11, 1, 7, 1);
        dueWidened(x, 6, 1, 7, 1);
        dueWidened(x, 5, 1, -1, -1);
        dueWidened(x, 5, 2, 14, 2);
        dueWidened(x, 4, 2, 14, 2);
        dueWidened(x, 3, 2, -1, -1);
        dueWidened(x, 3, 3, 21, 3);
        dueWidened(x, 2, 3, -1, -1);
        dueWidened(x, 12, 3, 0, 0);
        // in all, not for each wire
        ChipVolts two = Nets.chain(1, 1);
        two.pull(2, 12);
        dueWidened(two, 12, 1, -1, -1, -1);
        dueWidened(two, 12, 2, 2, 1, 1);
        dueWidened(two, 8, 3, -1, -1, -1);
        dueWidened(two, 10, 3, 3, 2, 1);
        // the pad at the other end
        two.pad(0, false);
        two.pad(2, true);
        two.pull(2, 0);
        two.pull(0, 12);
        dueWidened(two, 12, 1, -1, -1, -1);
        dueWidened(two, 12, 2, 2, 1, 1);
        dueWidened(two, 10, 3, 3, 2, 1);
        dueWidened(two, 9, 3, -1, -1, -1);
    }

    private static void noneAbove6() {
        int[] leastFall = {15, 12, 10, 10, 10, 10};
        for (int width = 3; width <= 6; width++) {
            ChipVolts x = Nets.pair(width, 5);
            x.pull(1, 60);
            dueWidened(x, 10, 3, 5 * (6 - width), 6 - width);
            dueWidened(x, 9, 3, -1, -1);
        }
        for (int width = 1; width <= 6; width++) {
            ChipVolts x = Nets.pair(width, 1);
            x.pull(1, 60);
            int least = leastFall[width - 1];
            Due.due("of " + width + " within " + least, x.widen(least, 3), Math.min(3, 6 - width));
            Due.due("of " + width + " within " + (least - 1), x.widen(least - 1, 3), -1);
        }
        // the cheap wire is as wide as may be: the dear one has to
        ChipVolts x = Nets.chain(6, 5);
        x.wire(1, 2, 5, 100);
        x.pull(2, 60);
        // 10 + 60 / 10; 10 + 60 / 11 .. 10 + 60 / 12
        dueWidened(x, 16, 3, 0, 0, 0, 0);
        dueWidened(x, 15, 3, 101, 0, 1, 1);
        dueWidened(x, 14, 3, -1, -1, -1, -1);
        ChipVolts full = Nets.fullest();
        Due.due("twelve of 6", full.widen((int) (full.fall(full.greatest(), 0) / full.fall(full.greatest(), 1)), 3), -1);
    }

    private static void leastPrice() {
        ChipVolts x = new ChipVolts();
        x.wire(0, 1, 1, 30);
        x.wire(0, 1, 1, 20);
        x.wire(0, 1, 1, 10);
        x.pad(0, true);
        x.pull(1, 60);
        dueWidened(x, 20, 3, 0, 0, 0, 0);
        dueWidened(x, 15, 3, 10, 0, 0, 1);
        dueWidened(x, 12, 3, 20, 0, 0, 2);
        dueWidened(x, 10, 3, 30, 0, 0, 3);
        dueWidened(x, 9, 3, -1, -1, -1, -1);
        // two of the cheap or one of the dear: the two
        ChipVolts y = new ChipVolts();
        y.net(3);
        y.wire(0, 1, 3, 1);
        y.wire(1, 2, 2, 3);
        y.pad(0, true);
        y.pull(2, 60);
        // 20 + 30; 15 + 30, 12 + 30, 10 + 30; 20 + 20; 15 + 20
        dueWidened(y, 45, 3, 1, 1, 0);
        dueWidened(y, 42, 3, 2, 2, 0);
        dueWidened(y, 42, 1, 3, 0, 1);
        dueWidened(y, 35, 3, 4, 1, 1);
        ChipVolts dear = Nets.pair(1, 100);
        dear.pull(1, 12);
        dueWidened(dear, 3, 3, 300, 3);
    }

    private static void noneAboveLimit() {
        ChipVolts x = Nets.pair(5, 1);
        x.pull(1, 26);
        // 26/5, then 26/6
        dueWidened(x, 6, 3, 0, 0);
        dueWidened(x, 5, 3, 1, 1);
        dueWidened(x, 4, 3, -1, -1);
        x.pull(1, 25);
        dueWidened(x, 5, 0, 0, 0);
        x.pull(1, 24);
        dueWidened(x, 4, 3, 1, 1);
        // at every knot, not at one that was the greatest at first
        ChipVolts two = new ChipVolts();
        two.net(3);
        two.wire(0, 1, 1, 1);
        two.wire(0, 2, 1, 50);
        two.pad(0, true);
        two.pull(1, 10);
        two.pull(2, 9);
        dueWidened(two, 9, 3, 1, 1, 0);
        dueWidened(two, 8, 3, 51, 1, 1);
        dueWidened(two, 4, 3, -1, -1, -1);
        two.pull(0, 100);
        dueWidened(two, 9, 3, 1, 1, 0);
    }

    private static void fewest() {
        ChipVolts x = new ChipVolts();
        x.net(3);
        x.wire(0, 1, 3, 1);
        x.wire(1, 2, 2, 2);
        x.pad(0, true);
        x.pull(2, 60);
        // 50 at first; one of the dear 40, two of the cheap 42, one of the cheap 45
        dueWidened(x, 42, 3, 2, 0, 1);
        dueWidened(x, 42, 2, 2, 0, 1);
        dueWidened(x, 42, 1, 2, 0, 1);
        dueWidened(x, 45, 3, 1, 1, 0);
        dueWidened(x, 40, 3, 2, 0, 1);
        dueWidened(x, 39, 3, 3, 1, 1);
        dueWidened(x, 50, 3, 0, 0, 0);
        // three of the cheap or one of the dear
        ChipVolts y = new ChipVolts();
        y.net(3);
        y.wire(0, 1, 3, 1);
        y.wire(1, 2, 2, 3);
        y.pad(0, true);
        y.pull(2, 60);
        dueWidened(y, 40, 3, 3, 0, 1);
        // one of each or three of the cheap
        ChipVolts z = new ChipVolts();
        z.net(3);
        z.wire(0, 1, 2, 1);
        z.wire(1, 2, 5, 2);
        z.pad(0, true);
        z.pull(2, 60);
        // 42; 20 + 12, 15 + 12, 12 + 12; 30 + 10; 20 + 10
        dueWidened(z, 30, 3, 2, 2, 0);
        dueWidened(z, 24, 3, 3, 3, 0);
        dueWidened(z, 32, 3, 1, 1, 0);
    }

    private static void greatestRow() {
        ChipVolts x = Nets.chain(1, 1, 1);
        x.pull(3, 12);
        // 36; 30 with one; 28 with two of one, 24 of two; 27, 22 or 18 with three
        dueWidened(x, 35, 3, 1, 1, 0, 0);
        dueWidened(x, 30, 3, 1, 1, 0, 0);
        dueWidened(x, 29, 3, 2, 2, 0, 0);
        dueWidened(x, 28, 3, 2, 2, 0, 0);
        dueWidened(x, 27, 3, 2, 1, 1, 0);
        dueWidened(x, 24, 2, 2, 1, 1, 0);
        dueWidened(x, 23, 3, 3, 2, 1, 0);
        dueWidened(x, 22, 3, 3, 2, 1, 0);
        dueWidened(x, 21, 3, 3, 1, 1, 1);
        dueWidened(x, 18, 3, 3, 1, 1, 1);
        dueWidened(x, 17, 3, -1, -1, -1, -1);
        ChipVolts cable = Nets.cable(12, 1);
        cable.pull(1, 60);
        dueWidened(cable, 4, 3, 3, 3, 0, 0, 0, 0, 0, 0, 0, 0, 0, 0, 0);
        cable.width(0, 6);
        cable.width(1, 5);
        cable.pull(1, 96);
        // 21 of width at first, 24 are due: the first that may be wider gets one, the next two
        dueWidened(cable, 4, 3, 3, 0, 1, 2, 0, 0, 0, 0, 0, 0, 0, 0, 0);
    }

    private static void threeTimes() {
        ChipVolts x = Nets.pair(1, 1);
        x.block(1, 1);
        dueWoken(x, 3, 1, 0);
        x = Nets.pair(1, 1);
        x.block(1, 20);
        dueWoken(x, 60, 1, 0);
        x = Nets.pair(6, 1);
        x.block(1, 20);
        dueWoken(x, 10, 1, 0);
        x = Nets.pair(6, 1);
        x.block(1, 1);
        dueWoken(x, 1, 2, 0);
    }

    private static void fromThenOn() {
        ChipVolts x = Nets.pair(1, 1);
        for (int b = 0; b < 6; b++) {
            x.block(1, 20);
        }
        // five of 20, then 60
        dueWoken(x, 160, 1, 0, 1, 2, 3, 4, 5);
        ChipVolts y = Nets.pair(1, 1);
        y.block(1, 5);
        y.block(1, 1);
        // 15, then 5 + 3
        dueWoken(y, 15, 1, 0, 1);
        y.block(1, 9);
        // 27, 9 + 15, 14 + 3
        dueWoken(y, 27, 1, 2, 0, 1);
        // the pad at the other end
        ChipVolts z = new ChipVolts();
        z.wire(0, 1, 1, 1);
        z.pad(1, true);
        z.block(0, 5);
        z.block(0, 6);
        // 18, then 6 + 15
        dueWoken(z, 21, 1, 1, 0);
    }

    private static void allBlocks() {
        ChipVolts x = Nets.pair(1, 1);
        dueWoken(x, 0, 1);
        for (int b = 0; b < 6; b++) {
            x.block(1, 1);
            int[] order = new int[b + 1];
            for (int i = 0; i <= b; i++) {
                order[i] = i;
            }
            dueWoken(x, b + 3, 1, order);
        }
    }

    private static void noOtherPulls() {
        ChipVolts x = Nets.pair(1, 1);
        x.block(1, 5);
        x.block(1, 6);
        // 18, then 6 + 15; the budget is 0, too
        dueWoken(x, 21, 1, 1, 0);
        x.pull(1, 100);
        x.budget(100);
        dueWoken(x, 21, 1, 1, 0);
        x.budget(1);
        dueWoken(x, 21, 1, 1, 0);
    }

    private static void leastOrder() {
        ChipVolts x = Nets.pair(1, 1);
        for (int most = 1; most <= 6; most++) {
            x.block(1, most);
        }
        // 15, 5 + 18, 11 + 12, 15 + 9, 18 + 6, 20 + 3: the 24 can't be less
        dueWoken(x, 24, 1, 4, 5, 3, 2, 1, 0);
        // at any knot: the far block falls most, whoever comes
        ChipVolts y = Nets.chain(1, 1);
        y.block(1, 4);
        y.block(2, 3);
        // 0 first: 12, then 4 + 18; 1 first: 18, then 6 + 12 at 1, 6 + 12 at 2
        dueWoken(y, 18, 1, 1, 0);
        // at a knot with no block: between two branches
        ChipVolts z = new ChipVolts();
        z.net(4);
        z.wire(0, 1, 1, 1);
        z.wire(1, 2, 1, 1);
        z.wire(1, 3, 1, 1);
        z.pad(0, true);
        z.block(2, 2);
        z.block(3, 5);
        // 0 first: 12, then 2 + 30; 1 first: 30, then 5 + 12 at 2
        dueWoken(z, 30, 1, 1, 0);
    }

    private static void firstByNumbers() {
        ChipVolts x = Nets.pair(1, 1);
        x.block(1, 1);
        x.block(1, 1);
        x.block(1, 9);
        x.block(1, 1);
        // the 9 first: 27; second: 1 + 27
        dueWoken(x, 27, 1, 2, 0, 1, 3);
        x.block(0, 20);
        // on the pad it comes as it may, but 0 may not come ahead of the 9
        dueWoken(x, 27, 1, 2, 0, 1, 3, 4);
        ChipVolts pads = Nets.allPads();
        for (int b = 0; b < 6; b++) {
            pads.block(6 - b, 20 - b);
        }
        dueWoken(pads, 0, 1, 0, 1, 2, 3, 4, 5);
        ChipVolts first = Nets.pair(1, 1);
        first.block(0, 20);
        first.block(1, 1);
        first.block(1, 9);
        dueWoken(first, 27, 1, 0, 2, 1);
        // in parts of their own they do not meet
        ChipVolts parts = new ChipVolts();
        parts.net(4);
        parts.wire(0, 1, 1, 1);
        parts.wire(2, 3, 1, 1);
        parts.pad(0, true);
        parts.pad(2, true);
        parts.block(1, 1);
        parts.block(3, 9);
        dueWoken(parts, 27, 1, 0, 1);
    }
}
