/** Each sentence of Terms 2: blocks and their budget, THE WORST, OPEN, THE WEAKEST WIRE. */
final class BlockSentences {
    private static final String TERMS = "Terms 2";

    private BlockSentences() {
    }

    static void all() {
        Sentence.holds(TERMS, "BLOCKS 0 .. 5, as they come,", BlockSentences::blocks);
        Sentence.holds(TERMS, "sit on KNOTS,", BlockSentences::onKnots);
        Sentence.holds(TERMS, "each PULLS up to its MOST (1 .. 20);", BlockSentences::most);
        Sentence.holds(TERMS, "all together up to a BUDGET (0 .. 100).", BlockSentences::budget);
        Sentence.holds(TERMS, "THE WORST for a KNOT k: whole pulls of BLOCKS within these,", BlockSentences::within);
        Sentence.holds(TERMS, "and nothing else,", BlockSentences::nothingElse);
        Sentence.holds(TERMS, "by which its FALL is greatest:", BlockSentences::isGreatest);
        Sentence.holds(TERMS, "BLOCKS by R(k, their KNOT), the greatest first,", BlockSentences::greatestFirst);
        Sentence.holds(TERMS, "of like ones the least number,", BlockSentences::likeOnes);
        Sentence.holds(TERMS, "each gets as much as may be.", BlockSentences::asMuchAsMayBe);
        Sentence.holds(TERMS, "(Also those with R 0.)", BlockSentences::alsoWith0);
        Sentence.holds(TERMS, "OPEN: THE NET without one WIRE,", BlockSentences::withoutOne);
        Sentence.holds(TERMS, "PULLS as told: its greatest FALL,", BlockSentences::pullsAsTold);
        Sentence.holds(TERMS, "or it is not FED.", BlockSentences::notFedWithout);
        Sentence.holds(TERMS, "THE WEAKEST WIRE: the first with which it is not FED;", BlockSentences::firstNotFed);
        Sentence.holds(TERMS, "else the one with the greatest such FALL,", BlockSentences::greatestSuch);
        Sentence.holds(TERMS, "of like ones the first.", BlockSentences::firstOfLike);
    }

    static void dueWorst(ChipVolts x, int k, int... gets) {
        for (int b = 0; b < gets.length; b++) {
            Due.due("worst(" + k + ", " + b + ")", x.worst(k, b), gets[b]);
        }
    }

    static void dueWorstFall(ChipVolts x, int k, long above, long below) {
        Due.due("worstFall(" + k + ")", x.worstFall(k, 0), x.worstFall(k, 1), above, below);
    }

    static void dueOpen(ChipVolts x, int w, long above, long below) {
        Due.due("open(" + w + ")", x.open(w, 0), x.open(w, 1), above, below);
    }

    /** Three knots in a row from the pad, a block on each, most 4, 5 and 6. */
    static ChipVolts threeBlocks(int budget) {
        ChipVolts x = Nets.chain(1, 1, 1);
        x.block(1, 4);
        x.block(2, 5);
        x.block(3, 6);
        x.budget(budget);
        return x;
    }

    private static void blocks() {
        ChipVolts x = Nets.pair(1, 1);
        x.budget(100);
        for (int b = 0; b < 6; b++) {
            Due.due("block " + b + " is not yet", x.worst(1, b), -2);
            Due.due("block " + b, x.block(1, b + 1), b);
            Due.due("block " + b + " is", x.worst(1, b), b + 1);
            Due.due("how many", x.count(3), b + 1);
        }
        Due.due("the seventh", x.block(1, 1), -4);
        Due.due("block 5", x.worst(1, 5), 6);
        Due.due("block 6", x.worst(1, 6), -2);
        Due.due("block -1", x.worst(1, -1), -2);
        Due.due("how many", x.count(3), 6);
    }

    private static void onKnots() {
        ChipVolts x = Nets.chain(1, 1, 1, 1, 1, 1);
        Due.due("on the pad", x.block(0, 20), 0);
        Due.due("on the last", x.block(6, 2), 1);
        Due.due("on the same", x.block(6, 3), 2);
        Due.due("ahead of the first", x.block(-1, 1), -2);
        Due.due("after the last", x.block(7, 1), -2);
        x.budget(100);
        dueWorst(x, 6, 20, 2, 3);
        dueWorstFall(x, 6, 30, 1);
        dueWorstFall(x, 1, 5, 1);
        dueWorstFall(x, 0, 0, 1);
    }

    private static void most() {
        ChipVolts x = Nets.pair(1, 1);
        x.budget(100);
        Due.due("most 0", x.block(1, 0), -2);
        Due.due("most 21", x.block(1, 21), -2);
        dueWorstFall(x, 1, 0, 1);
        Due.due("most 1", x.block(1, 1), 0);
        dueWorst(x, 1, 1);
        dueWorstFall(x, 1, 1, 1);
        Due.due("most 20", x.block(1, 20), 1);
        dueWorst(x, 1, 1, 20);
        dueWorstFall(x, 1, 21, 1);
        Due.due("most 19", x.block(1, 19), 2);
        dueWorst(x, 1, 1, 20, 19);
    }

    private static void budget() {
        ChipVolts x = Nets.pair(1, 1);
        for (int b = 0; b < 6; b++) {
            x.block(1, 20);
        }
        Due.due("-1", x.budget(-1), -2);
        Due.due("101", x.budget(101), -2);
        dueWorst(x, 1, 0, 0, 0, 0, 0, 0);
        dueWorstFall(x, 1, 0, 1);
        int[][] due = {{1, 1, 0, 0, 0, 0, 0}, {19, 19, 0, 0, 0, 0, 0}, {20, 20, 0, 0, 0, 0, 0},
            {21, 20, 1, 0, 0, 0, 0}, {99, 20, 20, 20, 20, 19, 0}, {100, 20, 20, 20, 20, 20, 0}};
        for (int[] d : due) {
            x.budget(d[0]);
            dueWorst(x, 1, d[1], d[2], d[3], d[4], d[5], d[6]);
            dueWorstFall(x, 1, d[0], 1);
        }
        x.budget(0);
        dueWorst(x, 1, 0, 0, 0, 0, 0, 0);
        dueWorstFall(x, 1, 0, 1);
    }

    private static void within() {
        for (int budget = 0; budget <= 17; budget++) {
            ChipVolts x = threeBlocks(budget);
            for (int k = 0; k <= 3; k++) {
                int sum = 0;
                for (int b = 0; b < 3; b++) {
                    int gets = x.worst(k, b);
                    Due.due("block " + b + " within its most", gets >= 0 && gets <= 4 + b ? 1 : 0, 1);
                    sum += gets;
                }
                Due.due("all within " + budget, sum, Math.min(budget, 15));
            }
        }
        ChipVolts x = threeBlocks(14);
        dueWorst(x, 3, 3, 5, 6);
        x.budget(15);
        dueWorst(x, 3, 4, 5, 6);
        x.budget(16);
        dueWorst(x, 3, 4, 5, 6);
    }

    private static void nothingElse() {
        ChipVolts x = threeBlocks(9);
        dueWorst(x, 3, 0, 3, 6);
        dueWorstFall(x, 3, 24, 1);
        dueWorstFall(x, 1, 9, 1);
        for (int k = 0; k <= 3; k++) {
            x.pull(k, 100);
        }
        dueWorst(x, 3, 0, 3, 6);
        dueWorstFall(x, 3, 24, 1);
        dueWorstFall(x, 1, 9, 1);
        ChipVolts none = Nets.pair(1, 1);
        none.pull(1, 100);
        none.budget(100);
        dueWorstFall(none, 1, 0, 1);
        Due.due("worstKnot()", none.worstKnot(), 0);
    }

    /** Every row of whole pulls, tried one by one; R is told by 1 here. */
    private static void isGreatest() {
        for (int budget = 0; budget <= 16; budget++) {
            ChipVolts x = threeBlocks(budget);
            for (int k = 0; k <= 3; k++) {
                long best = 0;
                for (int row = 0; row < 5 * 6 * 7; row++) {
                    int[] gets = {row % 5, row / 5 % 6, row / 30};
                    if (gets[0] + gets[1] + gets[2] <= budget) {
                        long sum = 0;
                        for (int b = 0; b < 3; b++) {
                            sum += gets[b] * Math.min(k, b + 1);
                        }
                        best = Math.max(best, sum);
                    }
                }
                dueWorstFall(x, k, best, 1);
            }
        }
        ChipVolts mesh = Nets.fullest();
        for (int k = 0; k < 7; k++) {
            ChipVolts pulled = Nets.fullest();
            for (int b = 0; b < 7; b++) {
                pulled.pull(b, b < 6 ? mesh.worst(k, b) : 0);
            }
            dueWorstFall(mesh, k, pulled.fall(k, 0), pulled.fall(k, 1));
        }
    }

    private static void greatestFirst() {
        ChipVolts x = threeBlocks(6);
        // R(3, .) is 1, 2, 3
        dueWorst(x, 3, 0, 0, 6);
        x.budget(7);
        dueWorst(x, 3, 0, 1, 6);
        x.budget(11);
        dueWorst(x, 3, 0, 5, 6);
        x.budget(12);
        dueWorst(x, 3, 1, 5, 6);
        // R(2, .) is 1, 2, 2
        x.budget(5);
        dueWorst(x, 2, 0, 5, 0);
        // between two pads R(1, .) is 2/3, 1/3 and 0
        x.pad(3, true);
        dueWorst(x, 1, 4, 1, 0);
        dueWorst(x, 2, 0, 5, 0);
    }

    private static void likeOnes() {
        ChipVolts x = threeBlocks(1);
        // R(1, .) is 1 for all, R(2, .) 1, 2, 2
        dueWorst(x, 1, 1, 0, 0);
        dueWorst(x, 2, 0, 1, 0);
        x.budget(4);
        dueWorst(x, 1, 4, 0, 0);
        x.budget(5);
        dueWorst(x, 1, 4, 1, 0);
        x.budget(10);
        dueWorst(x, 1, 4, 5, 1);
        ChipVolts same = Nets.pair(2, 1);
        for (int b = 0; b < 6; b++) {
            same.block(1, 20);
        }
        same.budget(20);
        dueWorst(same, 1, 20, 0, 0, 0, 0, 0);
        same.budget(100);
        dueWorst(same, 1, 20, 20, 20, 20, 20, 0);
        // the far one comes first by number, but not by R
        ChipVolts far = Nets.chain(1, 1);
        far.block(1, 3);
        far.block(2, 3);
        far.block(1, 3);
        far.block(2, 3);
        far.budget(7);
        dueWorst(far, 2, 1, 3, 0, 3);
        dueWorst(far, 1, 3, 3, 1, 0);
    }

    private static void asMuchAsMayBe() {
        for (int budget = 0; budget <= 100; budget++) {
            ChipVolts x = Nets.chain(1, 1);
            x.block(2, 20);
            x.block(1, 13);
            x.budget(budget);
            dueWorst(x, 2, Math.min(20, budget), Math.min(13, Math.max(0, budget - 20)));
            dueWorst(x, 1, Math.min(20, budget), Math.min(13, Math.max(0, budget - 20)));
        }
    }

    private static void alsoWith0() {
        ChipVolts x = Nets.chain(1, 1);
        x.block(0, 3);
        x.block(2, 4);
        x.block(0, 5);
        x.budget(4);
        dueWorst(x, 2, 0, 4, 0);
        x.budget(5);
        dueWorst(x, 2, 1, 4, 0);
        x.budget(8);
        dueWorst(x, 2, 3, 4, 1);
        x.budget(12);
        dueWorst(x, 2, 3, 4, 5);
        x.budget(13);
        dueWorst(x, 2, 3, 4, 5);
        // for the pad all have 0
        x.budget(4);
        dueWorst(x, 0, 3, 1, 0);
        dueWorstFall(x, 0, 0, 1);
        // in another part: 0 too
        ChipVolts parts = new ChipVolts();
        parts.net(4);
        parts.wire(0, 1, 1, 1);
        parts.wire(2, 3, 1, 1);
        parts.pad(0, true);
        parts.pad(2, true);
        parts.block(3, 6);
        parts.block(1, 7);
        parts.budget(10);
        dueWorst(parts, 1, 3, 7);
        dueWorst(parts, 3, 6, 4);
        dueWorstFall(parts, 1, 7, 1);
    }

    private static void withoutOne() {
        ChipVolts x = new ChipVolts();
        x.wire(0, 1, 1, 1);
        x.wire(0, 1, 6, 1);
        x.wire(1, 0, 3, 1);
        x.pad(0, true);
        x.pull(1, 36);
        NetSentences.dueFall(x, 1, 18, 5);
        dueOpen(x, 0, 4, 1);
        dueOpen(x, 1, 9, 1);
        dueOpen(x, 2, 36, 7);
        NetSentences.dueFall(x, 1, 18, 5);
        Due.due("all are there still", x.count(1), 3);
        ChipVolts most = Nets.cable(12, 6);
        most.pull(1, 66);
        dueOpen(most, 0, 1, 1);
        dueOpen(most, 11, 1, 1);
    }

    private static void pullsAsTold() {
        ChipVolts x = Nets.chain(1, 1);
        x.wire(0, 2, 1, 1);
        x.block(2, 20);
        x.budget(100);
        dueOpen(x, 0, 0, 1);
        x.pull(0, 100);
        x.pull(1, 5);
        x.pull(2, 7);
        // without 0: 2 falls 12, 1 falls 17; without 1: 5 and 7; without 2: 12 and 19
        dueOpen(x, 0, 17, 1);
        dueOpen(x, 1, 7, 1);
        dueOpen(x, 2, 19, 1);
        x.pull(2, 100);
        x.pull(1, 100);
        dueOpen(x, 2, 300, 1);
        dueOpen(x, 1, 100, 1);
        x.pad(1, true);
        dueOpen(x, 0, 50, 1);
        dueOpen(x, 1, 100, 1);
    }

    private static void notFedWithout() {
        ChipVolts x = Nets.pair(1, 1);
        Due.due("the only wire", x.open(0, 0), -3);
        Due.due("the only wire", x.open(0, 1), -3);
        x.wire(0, 1, 1, 1);
        dueOpen(x, 0, 0, 1);
        x = Nets.chain(1, 1, 1);
        for (int w = 0; w < 3; w++) {
            Due.due("each of a row", x.open(w, 0), -3);
        }
        x.pad(3, true);
        for (int w = 0; w < 3; w++) {
            dueOpen(x, w, 0, 1);
        }
        ChipVolts allPads = Nets.pair(1, 1);
        allPads.pad(1, true);
        dueOpen(allPads, 0, 0, 1);
    }

    private static void firstNotFed() {
        Due.due("the only wire", Nets.pair(1, 1).weakest(), 0);
        Due.due("of a row the first", Nets.chain(1, 1, 1).weakest(), 0);
        ChipVolts x = new ChipVolts();
        x.net(4);
        x.wire(0, 1, 1, 1);
        x.wire(0, 1, 1, 1);
        x.wire(1, 2, 1, 1);
        x.wire(2, 3, 1, 1);
        x.pad(0, true);
        x.pull(1, 100);
        Due.due("of two the first, though another's fall is great", x.weakest(), 2);
        x.wire(2, 1, 1, 1);
        Due.due("then the other", x.weakest(), 3);
        x.wire(3, 0, 6, 1);
        // without 0 or 1 knot 1 falls 100 / (1 + 3/5), without another less
        Due.due("then none: the greatest fall", x.weakest(), 0);
        x.pad(0, false);
        Due.due("never fed: the first", x.weakest(), 0);
        Due.due("never fed: the first of twelve", Nets.unfed().weakest(), 0);
        ChipVolts last = Nets.allPads();
        for (int w = 0; w < 11; w++) {
            last.wire(0, 1, 1, 1);
        }
        last.pad(6, false);
        last.wire(5, 6, 6, 1);
        Due.due("the twelfth alone", last.weakest(), 11);
    }

    private static void greatestSuch() {
        for (int widest = 0; widest < 12; widest++) {
            ChipVolts x = Nets.cable(12, 1);
            x.width(widest, 2);
            x.pull(1, 1);
            Due.due("the widest of twelve", x.weakest(), widest);
        }
        ChipVolts x = Nets.chain(1, 1);
        x.wire(0, 2, 1, 1);
        x.pull(1, 5);
        x.pull(2, 7);
        // 17, 7, 19
        Due.due("the last", x.weakest(), 2);
        x.pull(1, 7);
        x.pull(2, 5);
        // 19, 7, 17
        Due.due("the first", x.weakest(), 0);
        x.pad(0, false);
        x.pad(1, true);
        x.pull(0, 7);
        // without 0: 2 falls 12, 0 falls 19; without 1: 0 falls 12, 2 falls 17; without 2: 7
        Due.due("another pad", x.weakest(), 0);
        x.pull(2, 8);
        x.pull(0, 6);
        Due.due("the middle one", x.weakest(), 1);
    }

    private static void firstOfLike() {
        ChipVolts x = Nets.cable(12, 3);
        Due.due("nothing is pulled", x.weakest(), 0);
        x.pull(1, 10);
        Due.due("all alike", x.weakest(), 0);
        x.width(0, 2);
        Due.due("but for the first", x.weakest(), 1);
        x.width(11, 4);
        Due.due("but for the last", x.weakest(), 11);
        x.width(10, 4);
        Due.due("the last two", x.weakest(), 10);
        ChipVolts pads = Nets.pair(1, 1);
        pads.pad(1, true);
        pads.wire(0, 1, 6, 1);
        Due.due("pads alone", pads.weakest(), 0);
        ChipVolts ring = Nets.chain(1, 1);
        ring.wire(2, 0, 1, 1);
        ring.pull(1, 6);
        ring.pull(2, 6);
        // without 0 or 2: 18, without 1: 6
        Due.due("the first of two apart", ring.weakest(), 0);
    }
}
