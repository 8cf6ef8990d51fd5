import java.util.List;
import java.util.function.Supplier;

/** Nets that many tests use, each made anew. */
final class Nets {
    static final int LOW = Integer.MIN_VALUE, HIGH = Integer.MAX_VALUE;
    static final long FLOW_BAD = -1000000000000L, FLOW_NO = -2000000000000L;

    /** The wires of fullest(): a ring of seven, then five across. */
    static final int[][] FULLEST_ENDS = {{0, 1}, {1, 2}, {2, 3}, {3, 4}, {4, 5}, {5, 6}, {6, 0},
        {0, 3}, {4, 1}, {2, 5}, {6, 3}, {1, 5}};

    private Nets() {
    }

    /** Two knots, a wire from 0, which is a pad, to 1. */
    static ChipVolts pair(int width, int price) {
        ChipVolts x = new ChipVolts();
        x.wire(0, 1, width, price);
        x.pad(0, true);
        return x;
    }

    /** Knots in a row from 0, which is a pad, the wires of these widths, each for 1. */
    static ChipVolts chain(int... widths) {
        ChipVolts x = new ChipVolts();
        x.net(widths.length + 1);
        for (int k = 0; k < widths.length; k++) {
            x.wire(k, k + 1, widths[k], 1);
        }
        x.pad(0, true);
        return x;
    }

    /** Two knots, 0 a pad, so many wires of one width between them. */
    static ChipVolts cable(int wires, int width) {
        ChipVolts x = new ChipVolts();
        for (int w = 0; w < wires; w++) {
            x.wire(0, 1, width, 1);
        }
        x.pad(0, true);
        return x;
    }

    /** Three knots, a chain, a block, a budget and a pull: all small, nothing full. */
    static ChipVolts small() {
        ChipVolts x = chain(2, 3);
        x.pull(2, 6);
        x.block(1, 4);
        x.block(2, 3);
        x.budget(5);
        return x;
    }

    /** As small(), but without a pad. */
    static ChipVolts smallUnfed() {
        ChipVolts x = small();
        x.pad(0, false);
        return x;
    }

    /** So many of all as there may be, and each as great as it may be; pad 6. */
    static ChipVolts fullest() {
        ChipVolts x = unfed();
        x.pad(6, true);
        return x;
    }

    /** As fullest(), but without a pad. */
    static ChipVolts unfed() {
        ChipVolts x = new ChipVolts();
        x.net(7);
        for (int[] ends : FULLEST_ENDS) {
            x.wire(ends[0], ends[1], 6, 100);
        }
        for (int k = 0; k < 7; k++) {
            x.pull(k, 100);
        }
        for (int b = 0; b < 6; b++) {
            x.block(b, 20);
        }
        x.budget(100);
        return x;
    }

    /** Seven knots, each a pad, and no wires: FED all the same. */
    static ChipVolts allPads() {
        ChipVolts x = new ChipVolts();
        x.net(7);
        for (int k = 0; k < 7; k++) {
            x.pad(k, true);
        }
        return x;
    }

    /** Nearly nothing, something, all. */
    static List<Supplier<ChipVolts>> states() {
        return List.of(ChipVolts::new, Nets::small, Nets::fullest);
    }

    /** Of the second half, no fall is told. */
    static List<Supplier<ChipVolts>> fedAndNot() {
        return List.of(Nets::small, Nets::fullest, Nets::smallUnfed, Nets::unfed);
    }
}
