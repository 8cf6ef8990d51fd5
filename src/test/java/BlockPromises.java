import java.util.function.Supplier;

/** Each sentence of the promises 11 to 17. */
final class BlockPromises {
    private BlockPromises() {
    }

    static void all() {
        blocksAndBudget();
        worst();
        opens();
    }

    private static void blocksAndBudget() {
        Sentence.holds("Promise 11", "A BLOCK: its number.", BlockPromises::blockNumber);
        Sentence.holds("Promise 11", "BAD;", BlockPromises::blockBad);
        Sentence.holds("Promise 11", "FULL: 6.", BlockPromises::blockFull);
        Sentence.holds("Promise 12", "THE BUDGET: what it was.", BlockPromises::budgetWas);
        Sentence.holds("Promise 12", "BAD.", BlockPromises::budgetBad);
    }

    private static void worst() {
        Sentence.holds("Promise 13", "What a BLOCK gets in THE WORST for a KNOT.", BlockPromises::gets);
        Sentence.holds("Promise 13", "BAD,", BlockPromises::getsBad);
        Sentence.holds("Promise 13", "NO.", BlockPromises::getsNo);
        Sentence.holds("Promise 14", "THE FALL then: above, below.", BlockPromises::worstFall);
        Sentence.holds("Promise 14", "BAD,", BlockPromises::worstFallBad);
        Sentence.holds("Promise 14", "NO.", BlockPromises::worstFallNo);
        Sentence.holds("Promise 15", "THE KNOT the WORST of which is greatest,", BlockPromises::worstKnot);
        Sentence.holds("Promise 15", "of like ones the least.", BlockPromises::worstKnotOfLike);
        Sentence.holds("Promise 15", "NO.", BlockPromises::worstKnotNo);
    }

    private static void opens() {
        Sentence.holds("Promise 16", "OPEN: the greatest FALL without a WIRE: above, below.", BlockPromises::open);
        Sentence.holds("Promise 16", "BAD;", BlockPromises::openBad);
        Sentence.holds("Promise 16", "NO: not FED without it.", BlockPromises::openNo);
        Sentence.holds("Promise 17", "THE WEAKEST WIRE.", BlockPromises::weakest);
        Sentence.holds("Promise 17", "NONE: there are no WIRES.", BlockPromises::weakestNone);
    }

    private static void blockNumber() {
        ChipVolts x = Nets.small();
        Due.due("after two", x.block(0, 1), 2);
        x.block(3, 1);
        Due.due("after one refused", x.block(0, 20), 3);
        x.net(3);
        Due.due("after net", x.block(2, 20), 0);
        Due.due("not fed either", Nets.smallUnfed().block(0, 1), 2);
    }

    private static void blockBad() {
        for (Supplier<ChipVolts> made : Nets.states()) {
            int last = made.get().count(0) - 1;
            Wrong.refuses("block(k, 1)", made, 0, last, -2, (x, v) -> x.block(v, 1));
            Wrong.refuses("block(last, most)", made, 1, 20, -2, (x, v) -> x.block(last, v));
        }
        Twin.refused("all of it wrong", Nets::small, x -> x.block(3, 0), -2);
    }

    private static void blockFull() {
        ChipVolts x = Nets.pair(1, 1);
        for (int b = 0; b < 5; b++) {
            x.block(1, 1);
        }
        Due.due("with five", x.block(1, 1), 5);
        Due.due("with six", x.block(1, 1), -4);
        Twin.refused("with six", Nets::fullest, v -> v.block(0, 1), -4);
        Twin.refused("with six", Nets::fullest, v -> v.block(6, 20), -4);
        Twin.refused("with six, unfed", Nets::unfed, v -> v.block(6, 20), -4);
    }

    private static void budgetWas() {
        ChipVolts x = new ChipVolts();
        int was = 0;
        for (int v : new int[] {0, 1, 100, 100, 99, 0, 0, 50}) {
            Due.due("budget(" + v + ")", x.budget(v), was);
            Due.due("count(4)", x.count(4), v);
            was = v;
        }
    }

    private static void budgetBad() {
        for (Supplier<ChipVolts> made : Nets.states()) {
            Wrong.refuses("budget(v)", made, 0, 100, -2, ChipVolts::budget);
        }
    }

    private static void gets() {
        ChipVolts x = BlockSentences.threeBlocks(0);
        BlockSentences.dueWorst(x, 3, 0, 0, 0);
        x.budget(1);
        BlockSentences.dueWorst(x, 3, 0, 0, 1);
        BlockSentences.dueWorst(x, 0, 1, 0, 0);
        x.budget(15);
        BlockSentences.dueWorst(x, 0, 4, 5, 6);
        x.budget(100);
        BlockSentences.dueWorst(x, 3, 4, 5, 6);
        Twin.refused("asking changes nothing", Nets::small, v -> v.worst(2, 1), 3);
    }

    private static void getsBad() {
        for (Supplier<ChipVolts> made : Nets.fedAndNot()) {
            int last = made.get().count(0) - 1;
            int lastBlock = made.get().count(3) - 1;
            Wrong.refuses("worst(k, 0)", made, 0, last, -2, (x, v) -> x.worst(v, 0));
            Wrong.refuses("worst(last, block)", made, 0, lastBlock, -2, (x, v) -> x.worst(last, v));
        }
        Twin.refused("no blocks, not fed", ChipVolts::new, x -> x.worst(0, 0), -2);
        Twin.refused("no blocks, fed", Nets::allPads, x -> x.worst(0, 0), -2);
    }

    private static void getsNo() {
        for (int k = 0; k < 7; k++) {
            int knot = k;
            Twin.refused("not fed", Nets::unfed, x -> x.worst(knot, 5), -3);
        }
        Twin.refused("not fed", Nets::smallUnfed, x -> x.worst(0, 0), -3);
    }

    private static void worstFall() {
        ChipVolts x = Nets.chain(3, 2);
        BlockSentences.dueWorstFall(x, 2, 0, 1);
        x.budget(100);
        BlockSentences.dueWorstFall(x, 2, 0, 1);
        x.block(2, 20);
        // 20 (1/3 + 1/2)
        Due.due("above", x.worstFall(2, 0), 50);
        Due.due("below", x.worstFall(2, 1), 3);
        BlockSentences.dueWorstFall(x, 1, 20, 3);
        BlockSentences.dueWorstFall(x, 0, 0, 1);
        x.budget(1);
        BlockSentences.dueWorstFall(x, 2, 5, 6);
        x.budget(0);
        BlockSentences.dueWorstFall(x, 2, 0, 1);
    }

    private static void worstFallBad() {
        for (Supplier<ChipVolts> made : Nets.fedAndNot()) {
            int last = made.get().count(0) - 1;
            Wrong.refuses("worstFall(k, 0)", made, 0, last, -2, (x, v) -> x.worstFall(v, 0));
            Wrong.refuses("worstFall(k, 1)", made, 0, last, -2, (x, v) -> x.worstFall(v, 1));
            Wrong.refuses("worstFall(last, what)", made, 0, 1, -2, (x, v) -> x.worstFall(last, v));
        }
    }

    private static void worstFallNo() {
        Twin.refused("of a new one", ChipVolts::new, x -> x.worstFall(0, 0), -3);
        for (int k = 0; k < 7; k++) {
            int knot = k;
            Twin.refused("above", Nets::unfed, x -> x.worstFall(knot, 0), -3);
            Twin.refused("below", Nets::unfed, x -> x.worstFall(knot, 1), -3);
        }
    }

    private static void worstKnot() {
        ChipVolts x = BlockSentences.threeBlocks(1);
        Due.due("the last", x.worstKnot(), 3);
        x.pad(3, true);
        x.pad(0, false);
        Due.due("the first", x.worstKnot(), 0);
        x.pad(0, true);
        // R(1, 1) = R(2, 2) = 2/3, R(1, 2) = 1/3: of 4 and 5 pulled 13/3 and 14/3
        x.budget(9);
        Due.due("the middle one", x.worstKnot(), 2);
    }

    private static void worstKnotOfLike() {
        ChipVolts x = BlockSentences.threeBlocks(0);
        Due.due("nothing is given", x.worstKnot(), 0);
        ChipVolts none = Nets.pair(1, 1);
        none.budget(100);
        Due.due("no blocks", none.worstKnot(), 0);
        ChipVolts one = Nets.chain(1, 1, 1);
        one.block(1, 20);
        one.budget(1);
        Due.due("1, 2 and 3 alike", one.worstKnot(), 1);
        one.block(2, 1);
        one.budget(20);
        // for 2 and 3: 1 at 2, 19 at 1 gives 21; for 1: 20
        Due.due("2 and 3 alike", one.worstKnot(), 2);
        // knots 1 and 2 between the pads 0 and 3, each with a block of the same most
        ChipVolts two = Nets.chain(1, 1, 1);
        two.pad(3, true);
        two.block(2, 5);
        two.block(1, 5);
        two.budget(10);
        Due.due("1 and 2 alike, by other rows", two.worstKnot(), 1);
        ChipVolts pads = Nets.allPads();
        pads.block(3, 20);
        pads.budget(100);
        Due.due("all pads", pads.worstKnot(), 0);
    }

    private static void worstKnotNo() {
        Twin.refused("of a new one", ChipVolts::new, ChipVolts::worstKnot, -3);
        Twin.refused("of one not fed", Nets::unfed, ChipVolts::worstKnot, -3);
        Twin.refused("of a small one", Nets::smallUnfed, ChipVolts::worstKnot, -3);
    }

    private static void open() {
        ChipVolts x = Nets.cable(2, 3);
        x.width(1, 2);
        x.pull(1, 7);
        Due.due("above", x.open(0, 0), 7);
        Due.due("below", x.open(0, 1), 2);
        Due.due("above", x.open(1, 0), 7);
        Due.due("below", x.open(1, 1), 3);
        x.pull(1, 0);
        BlockSentences.dueOpen(x, 1, 0, 1);
        ChipVolts full = Nets.fullest();
        for (int w = 0; w < 12; w++) {
            dueAsWithout(full, w);
        }
    }

    /** As the greatest fall of a net that never had the wire. */
    private static void dueAsWithout(ChipVolts full, int without) {
        ChipVolts rest = new ChipVolts();
        rest.net(7);
        for (int w = 0; w < 12; w++) {
            if (w != without) {
                rest.wire(Nets.FULLEST_ENDS[w][0], Nets.FULLEST_ENDS[w][1], 6, 100);
            }
        }
        for (int k = 0; k < 7; k++) {
            rest.pull(k, 100);
        }
        rest.pad(6, true);
        int k = rest.greatest();
        BlockSentences.dueOpen(full, without, rest.fall(k, 0), rest.fall(k, 1));
    }

    private static void openBad() {
        for (Supplier<ChipVolts> made : Nets.fedAndNot()) {
            int last = made.get().count(1) - 1;
            Wrong.refuses("open(w, 0)", made, 0, last, -2, (x, v) -> x.open(v, 0));
            Wrong.refuses("open(w, 1)", made, 0, last, -2, (x, v) -> x.open(v, 1));
            Wrong.refuses("open(last, what)", made, 0, 1, -2, (x, v) -> x.open(last, v));
        }
        Twin.refused("no wires", ChipVolts::new, x -> x.open(0, 0), -2);
        Twin.refused("no wires", Nets::allPads, x -> x.open(0, 0), -2);
    }

    private static void openNo() {
        for (int w = 0; w < 2; w++) {
            int wire = w;
            Twin.refused("above", Nets::small, x -> x.open(wire, 0), -3);
            Twin.refused("below", Nets::small, x -> x.open(wire, 1), -3);
            Twin.refused("not fed with it", Nets::smallUnfed, x -> x.open(wire, 0), -3);
        }
        for (int w = 0; w < 12; w++) {
            int wire = w;
            Twin.refused("not fed with it", Nets::unfed, x -> x.open(wire, 1), -3);
            Due.due("fed without it", Nets.fullest().open(w, 0) > 0 ? 1 : 0, 1);
        }
    }

    private static void weakest() {
        ChipVolts x = Nets.cable(3, 1);
        x.width(2, 6);
        x.pull(1, 1);
        Due.due("the greatest", x.weakest(), 2);
        Twin.refused("asking changes nothing", Nets::small, ChipVolts::weakest, 0);
        Twin.refused("not fed: the first", Nets::smallUnfed, ChipVolts::weakest, 0);
    }

    private static void weakestNone() {
        Twin.refused("not fed", ChipVolts::new, ChipVolts::weakest, -1);
        Twin.refused("fed", Nets::allPads, ChipVolts::weakest, -1);
        ChipVolts x = Nets.fullest();
        x.net(7);
        Due.due("after net", x.weakest(), -1);
        x.wire(0, 1, 1, 1);
        Due.due("one wire", x.weakest(), 0);
    }
}
