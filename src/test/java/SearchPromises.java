import java.math.BigInteger;
import java.util.ArrayList;
import java.util.List;
import java.util.function.Supplier;

/** Each sentence of the promises 18 to 25. */
final class SearchPromises {
    private SearchPromises() {
    }

    static void all() {
        shrunkAndPads();
        widening();
        waking();
        countAndDigest();
    }

    private static void shrunkAndPads() {
        Sentence.holds("Promise 18", "W(a, b) of THE NET SHRUNK to PORTS (bits): above, below.", SearchPromises::shrunk);
        Sentence.holds("Promise 18", "BAD:", SearchPromises::shrunkBad);
        Sentence.holds("Promise 18", "also a, b alike,", SearchPromises::shrunkAlike);
        Sentence.holds("Promise 18", "or no PORTS;", SearchPromises::shrunkNoPorts);
        Sentence.holds("Promise 18", "NO: PORTS are not as told.", SearchPromises::shrunkNo);
        Sentence.holds("Promise 19", "BEST PADS of j, as bits.", SearchPromises::pads);
        Sentence.holds("Promise 19", "BAD:", SearchPromises::padsBad);
        Sentence.holds("Promise 19", "also j above n;", SearchPromises::padsAboveN);
        Sentence.holds("Promise 19", "NO: by none it is FED.", SearchPromises::padsNo);
        Sentence.holds("Promise 19", "(PADS stay.)", SearchPromises::padsStay);
    }

    private static void widening() {
        Sentence.holds("Promise 20", "WIDENED: the price.", SearchPromises::widen);
        Sentence.holds("Promise 20", "NONE: it can't be.", SearchPromises::widenNone);
        Sentence.holds("Promise 20", "BAD;", SearchPromises::widenBad);
        Sentence.holds("Promise 20", "NO.", SearchPromises::widenNo);
        Sentence.holds("Promise 20", "(WIDTHS stay.)", SearchPromises::widthsStay);
        Sentence.holds("Promise 21", "How many more of WIDTH a WIRE gets then.", SearchPromises::widened);
        Sentence.holds("Promise 21", "BAD;", SearchPromises::widenedBad);
        Sentence.holds("Promise 21", "NO;", SearchPromises::widenedNo);
        Sentence.holds("Promise 21", "NONE: it can't be.", SearchPromises::widenedNone);
    }

    private static void waking() {
        Sentence.holds("Promise 22", "The i-th BLOCK of THE ORDER in which they are WOKEN.", SearchPromises::woken);
        Sentence.holds("Promise 22", "NONE: not so many.", SearchPromises::wokenNone);
        Sentence.holds("Promise 22", "NO.", SearchPromises::wokenNo);
        Sentence.holds("Promise 23", "The greatest FALL in it", SearchPromises::wokenFall);
        Sentence.holds("Promise 23", "(0 by 1 without BLOCKS):", SearchPromises::wokenFallWithoutBlocks);
        Sentence.holds("Promise 23", "above, below.", SearchPromises::wokenFallParts);
        Sentence.holds("Promise 23", "BAD,", SearchPromises::wokenFallBad);
        Sentence.holds("Promise 23", "NO.", SearchPromises::wokenFallNo);
    }

    private static void countAndDigest() {
        Sentence.holds("Promise 24", "How many: 0 KNOTS, 1 WIRES, 2 PADS, 3 BLOCKS, 4 THE BUDGET, 5 whether THE NET is FED.",
                SearchPromises::count);
        Sentence.holds("Promise 24", "BAD.", SearchPromises::countBad);
        Sentence.holds("Promise 25", "h = 191; then h = 31 h + v for each v:", SearchPromises::digestOfNew);
        Sentence.holds("Promise 25", "count(0) to count(5);", SearchPromises::digestOfCounts);
        Sentence.holds("Promise 25", "of KNOTS what they PULL, whether they are PADS (1, 0), fall(.., 0), fall(.., 1);",
                SearchPromises::digestOfKnots);
        Sentence.holds("Promise 25", "of WIRES both KNOTS, WIDTH, PRICE;", SearchPromises::digestOfWires);
        Sentence.holds("Promise 25", "of BLOCKS KNOT, MOST.", SearchPromises::digestOfBlocks);
    }

    private static void shrunk() {
        ChipVolts x = Nets.chain(3, 2);
        Due.due("above", x.shrunk(5, 0, 2, 0), 6);
        Due.due("below", x.shrunk(5, 0, 2, 1), 5);
        SearchSentences.dueW(x, 7, 0, 2, 0, 1);
        SearchSentences.dueW(x, 7, 0, 1, 3, 1);
        SearchSentences.dueW(x, 3, 0, 1, 3, 1);
        // the last knot alone of seven, with the first
        ChipVolts far = Nets.chain(6, 6, 6, 6, 6, 6);
        SearchSentences.dueW(far, 65, 0, 6, 1, 1);
        SearchSentences.dueW(far, 127, 5, 6, 6, 1);
    }

    private static void shrunkBad() {
        for (Supplier<ChipVolts> made : List.<Supplier<ChipVolts>>of(ChipVolts::new, Nets::small, Nets::smallUnfed,
                Nets::fullest, Nets::unfed)) {
            int last = made.get().count(0) - 1;
            int all = (1 << last + 1) - 1;
            Wrong.refuses("shrunk(all, a, last, 0)", made, 0, last - 1, -2, (x, v) -> x.shrunk(all, v, last, 0));
            Wrong.refuses("shrunk(all, 0, b, 1)", made, 1, last, -2, (x, v) -> x.shrunk(all, 0, v, 1));
            Wrong.refuses("shrunk(all, 0, last, what)", made, 0, 1, -2, (x, v) -> x.shrunk(all, 0, last, v));
            for (int ports : Wrong.outside(1, all)) {
                Twin.refused("shrunk(" + ports + ", 0, last, 0)", made, x -> x.shrunk(ports, 0, last, 0), -2);
            }
            for (int beyond = last + 1; beyond < 32; beyond++) {
                int ports = all | 1 << beyond;
                Twin.refused("shrunk(" + ports + ", 0, last, 0)", made, x -> x.shrunk(ports, 0, last, 0), -2);
            }
        }
    }

    private static void shrunkAlike() {
        for (int k = 0; k < 7; k++) {
            int knot = k;
            Twin.refused("with all", Nets::fullest, x -> x.shrunk(127, knot, knot, 0), -2);
            Twin.refused("with itself alone", Nets::unfed, x -> x.shrunk(1 << knot, knot, knot, 1), -2);
        }
        Twin.refused("of a new one", ChipVolts::new, x -> x.shrunk(3, 1, 1, 0), -2);
    }

    private static void shrunkNoPorts() {
        Twin.refused("no bits", Nets::small, x -> x.shrunk(0, 0, 1, 0), -2);
        Twin.refused("a is none", Nets::small, x -> x.shrunk(5, 1, 2, 0), -2);
        Twin.refused("b is none", Nets::small, x -> x.shrunk(5, 0, 1, 0), -2);
        Twin.refused("neither is", Nets::small, x -> x.shrunk(1, 1, 2, 0), -2);
        Twin.refused("one port alone, a", Nets::small, x -> x.shrunk(1, 0, 2, 0), -2);
        Twin.refused("one port alone, b", Nets::small, x -> x.shrunk(1, 2, 0, 0), -2);
        Twin.refused("ahead of NO: the pad is none", Nets::small, x -> x.shrunk(4, 0, 2, 0), -2);
        for (int a = 0; a < 7; a++) {
            for (int b = 0; b < 7; b++) {
                ChipVolts x = Nets.unfed();
                int ports = 127 & ~(1 << b);
                Due.due("shrunk(" + ports + ", " + a + ", " + b + ", 0)", x.shrunk(ports, a, b, 0), -2);
                Due.due("shrunk(" + ports + ", " + b + ", " + a + ", 0)", x.shrunk(ports, b, a, 0), -2);
            }
        }
    }

    private static void shrunkNo() {
        Twin.refused("the pad is none", Nets::small, x -> x.shrunk(6, 1, 2, 0), -3);
        Twin.refused("the pad is none", Nets::small, x -> x.shrunk(6, 1, 2, 1), -3);
        Twin.refused("pad 6 is none", Nets::fullest, x -> x.shrunk(63, 0, 1, 0), -3);
        Twin.refused("pad 3 of seven is none", Nets::allPads, x -> x.shrunk(119, 0, 1, 0), -3);
        Twin.refused("1 leads nowhere", SearchPromises::threeApart, x -> x.shrunk(5, 0, 2, 0), -3);
        ChipVolts x = threeApart();
        SearchSentences.dueW(x, 7, 0, 2, 4, 1);
        x.wire(1, 2, 1, 1);
        SearchSentences.dueW(x, 5, 0, 2, 4, 1);
        // without pads nothing else is asked
        SearchSentences.dueW(Nets.smallUnfed(), 6, 1, 2, 3, 1);
    }

    /** Knots 0 and 2 joined, knot 1 without a wire, no pads. */
    private static ChipVolts threeApart() {
        ChipVolts x = new ChipVolts();
        x.net(3);
        x.wire(2, 0, 4, 1);
        return x;
    }

    private static void pads() {
        ChipVolts x = Nets.chain(1, 1, 1, 1, 1, 1);
        x.pull(6, 1);
        Due.due("the last alone", x.pads(1), 64);
        x.pull(5, 1);
        x.pull(4, 1);
        Due.due("the last three", x.pads(3), 112);
        ChipVolts two = new ChipVolts();
        Due.due("both of two, no wires", two.pads(2), 3);
        Due.due("asking changes nothing", Twin.told(two).equals(Twin.told(new ChipVolts())) ? 1 : 0, 1);
    }

    private static void padsBad() {
        Wrong.refuses("pads(j)", Nets::small, 1, 3, -2, ChipVolts::pads);
        Wrong.refuses("pads(j)", Nets::smallUnfed, 1, 3, -2, ChipVolts::pads);
        Wrong.refuses("pads(j)", Nets::fullest, 1, 3, -2, ChipVolts::pads);
        Wrong.refuses("pads(j)", Nets::allPads, 1, 3, -2, ChipVolts::pads);
    }

    private static void padsAboveN() {
        Wrong.refuses("pads(j) of two knots", ChipVolts::new, 1, 2, -2, ChipVolts::pads);
        Wrong.refuses("pads(j) of two knots", () -> Nets.pair(1, 1), 1, 2, -2, ChipVolts::pads);
        ChipVolts three = new ChipVolts();
        three.net(3);
        Due.due("pads(3) of three", three.pads(3), 7);
        three.net(2);
        Due.due("pads(3) of two", three.pads(3), -2);
        Due.due("pads(2) of two", three.pads(2), 3);
    }

    private static void padsNo() {
        Twin.refused("one of two apart", ChipVolts::new, x -> x.pads(1), -3);
        for (int j = 1; j <= 3; j++) {
            int many = j;
            Twin.refused("of seven apart", Nets::allPads, x -> x.pads(many), -3);
        }
        ChipVolts x = new ChipVolts();
        x.net(4);
        Due.due("three of four apart", x.pads(3), -3);
        x.wire(3, 1, 1, 1);
        Due.due("three of three parts", x.pads(3), 7);
        Due.due("two of three parts", x.pads(2), -3);
        x.wire(1, 2, 1, 1);
        Due.due("two of two parts", x.pads(2), 3);
        Due.due("one of two parts", x.pads(1), -3);
        x.wire(2, 0, 1, 1);
        Due.due("one of one part", x.pads(1), 1);
    }

    private static void padsStay() {
        for (int j = 1; j <= 3; j++) {
            int many = j;
            Twin.refused("asked of small", Nets::small, x -> x.pads(many), small(many));
            ChipVolts x = Nets.fullest();
            long before = x.digest();
            Due.due("asked of the fullest", x.pads(many) > 0 ? 1 : 0, 1);
            Due.due("the digest", x.digest(), before);
            Due.due("pads", x.count(2), 1);
            Due.due("the pad", x.pad(6, true), -3);
        }
    }

    /** Only 2 pulls. */
    private static int small(int j) {
        return j == 1 ? 4 : j == 2 ? 5 : 7;
    }

    private static void widen() {
        ChipVolts x = Nets.pair(3, 100);
        x.pull(1, 60);
        Due.due("nothing more", x.widen(20, 0), 0);
        Due.due("nothing more, though it may be", x.widen(20, 3), 0);
        Due.due("one", x.widen(19, 1), 100);
        Due.due("three", x.widen(10, 3), 300);
        ChipVolts noWires = Nets.allPads();
        Due.due("no wires, nothing falls", noWires.widen(0, 0), 0);
        Due.due("no wires, nothing falls", noWires.widen(0, 3), 0);
    }

    private static void widenNone() {
        ChipVolts x = Nets.pair(3, 100);
        x.pull(1, 60);
        Due.due("none more", x.widen(19, 0), -1);
        Due.due("one more", x.widen(14, 1), -1);
        Due.due("two more", x.widen(11, 2), -1);
        Due.due("three more", x.widen(9, 3), -1);
        x.pull(1, 1);
        Due.due("no fall at all", x.widen(0, 3), -1);
        Twin.refused("of small", Nets::small, v -> v.widen(4, 0), -1);
        Twin.refused("of the fullest", Nets::fullest, v -> v.widen(0, 3), -1);
    }

    private static void widenBad() {
        for (Supplier<ChipVolts> made : Nets.fedAndNot()) {
            Wrong.refuses("widen(limit, 0)", made, 0, 1000, -2, (x, v) -> x.widen(v, 0));
            Wrong.refuses("widen(limit, 3)", made, 0, 1000, -2, (x, v) -> x.widen(v, 3));
            Wrong.refuses("widen(0, u)", made, 0, 3, -2, (x, v) -> x.widen(0, v));
            Wrong.refuses("widen(1000, u)", made, 0, 3, -2, (x, v) -> x.widen(1000, v));
        }
        Wrong.refuses("widen(limit, 0) of a new one", ChipVolts::new, 0, 1000, -2, (x, v) -> x.widen(v, 0));
    }

    private static void widenNo() {
        Twin.refused("of a new one", ChipVolts::new, x -> x.widen(1000, 0), -3);
        Twin.refused("of a small one", Nets::smallUnfed, x -> x.widen(1000, 3), -3);
        Twin.refused("ahead of NONE", Nets::unfed, x -> x.widen(0, 0), -3);
    }

    private static void widthsStay() {
        ChipVolts x = Nets.chain(3, 2);
        x.pull(2, 60);
        long before = x.digest();
        Due.due("asked", x.widen(35, 3), 2);
        Due.due("asked", x.widened(35, 3, 0), 1);
        Due.due("the digest", x.digest(), before);
        Due.due("width 0", x.width(0, 3), 3);
        Due.due("width 1", x.width(1, 2), 2);
        NetSentences.dueFall(x, 2, 50, 1);
        Twin.refused("of small", Nets::small, v -> v.widen(4, 3), 1);
        Twin.refused("of small", Nets::small, v -> v.widened(4, 3, 0), 1);
    }

    private static void widened() {
        ChipVolts x = Nets.chain(3, 2);
        x.pull(2, 60);
        SearchSentences.dueWidened(x, 50, 3, 0, 0, 0);
        SearchSentences.dueWidened(x, 45, 3, 1, 1, 0);
        SearchSentences.dueWidened(x, 40, 3, 1, 0, 1);
        SearchSentences.dueWidened(x, 30, 3, 3, 1, 2);
        SearchSentences.dueWidened(x, 29, 3, -1, -1, -1);
        // asked for another in between
        Due.due("widened(45, 3, 0)", x.widened(45, 3, 0), 1);
        Due.due("widened(40, 3, 0)", x.widened(40, 3, 0), 0);
        Due.due("widened(50, 3, 1)", x.widened(50, 3, 1), 0);
        // the twelfth
        ChipVolts last = Nets.cable(12, 6);
        last.width(11, 3);
        last.pull(1, 69);
        Due.due("of 69", last.widen(1, 3), 0);
        last.pull(1, 72);
        Due.due("of 72", last.widened(1, 3, 11), 3);
        Due.due("of 72", last.widened(1, 3, 0), 0);
    }

    private static void widenedBad() {
        for (Supplier<ChipVolts> made : Nets.fedAndNot()) {
            int last = made.get().count(1) - 1;
            Wrong.refuses("widened(limit, 0, 0)", made, 0, 1000, -2, (x, v) -> x.widened(v, 0, 0));
            Wrong.refuses("widened(0, u, last)", made, 0, 3, -2, (x, v) -> x.widened(0, v, last));
            Wrong.refuses("widened(1000, 3, w)", made, 0, last, -2, (x, v) -> x.widened(1000, 3, v));
            Wrong.refuses("widened(0, 0, w)", made, 0, last, -2, (x, v) -> x.widened(0, 0, v));
        }
        Twin.refused("no wires, not fed", ChipVolts::new, x -> x.widened(0, 0, 0), -2);
        Twin.refused("no wires, fed", Nets::allPads, x -> x.widened(0, 0, 0), -2);
    }

    private static void widenedNo() {
        for (int w = 0; w < 12; w++) {
            int wire = w;
            Twin.refused("not fed", Nets::unfed, x -> x.widened(1000, 3, wire), -3);
        }
        Twin.refused("ahead of NONE", Nets::smallUnfed, x -> x.widened(0, 0, 1), -3);
    }

    private static void widenedNone() {
        for (int w = 0; w < 12; w++) {
            int wire = w;
            Twin.refused("none above 6", Nets::fullest, x -> x.widened(0, 3, wire), -1);
        }
        Twin.refused("none more", Nets::small, x -> x.widened(4, 0, 0), -1);
        Twin.refused("none more", Nets::small, x -> x.widened(4, 0, 1), -1);
        Due.due("one more", Nets.small().widened(4, 1, 0), 1);
    }

    private static void woken() {
        ChipVolts x = Nets.pair(1, 1);
        x.block(1, 4);
        SearchSentences.dueWoken(x, 12, 1, 0);
        x.block(1, 5);
        // 15, 5 + 12
        SearchSentences.dueWoken(x, 17, 1, 1, 0);
        x.block(1, 6);
        x.block(1, 7);
        x.block(1, 8);
        x.block(1, 9);
        // 39 in all, to which the last adds 8 at least; 15, 5 + 21, 12 + 24, 20 + 27, 29 + 18, 35 + 12
        SearchSentences.dueWoken(x, 47, 1, 1, 3, 4, 5, 2, 0);
        Twin.refused("asking changes nothing", Nets::small, v -> v.woken(0), 1);
    }

    private static void wokenNone() {
        for (int blocks = 0; blocks <= 6; blocks++) {
            int last = blocks - 1;
            Supplier<ChipVolts> made = () -> {
                ChipVolts x = Nets.pair(1, 1);
                for (int b = 0; b <= last; b++) {
                    x.block(1, 1);
                }
                return x;
            };
            Wrong.refuses("woken(i) of " + blocks, made, 0, last, -1, ChipVolts::woken);
        }
        Twin.refused("of a net of pads", Nets::allPads, x -> x.woken(0), -1);
    }

    private static void wokenNo() {
        Twin.refused("of a new one", ChipVolts::new, x -> x.woken(0), -3);
        for (int i = -1; i <= 6; i++) {
            int number = i;
            Twin.refused("not fed", Nets::unfed, x -> x.woken(number), -3);
        }
    }

    private static void wokenFall() {
        ChipVolts x = Nets.pair(1, 1);
        x.block(1, 1);
        SearchSentences.dueWoken(x, 3, 1, 0);
        for (int b = 1; b < 6; b++) {
            x.block(1, 20);
        }
        // the 1 last or not: four of 20, then 60; 100 + 3
        SearchSentences.dueWoken(x, 140, 1, 1, 2, 3, 4, 5, 0);
        ChipVolts full = Nets.fullest();
        Due.due("of the fullest", full.wokenFall(0) > 0 ? 1 : 0, 1);
        x.pad(1, true);
        SearchSentences.dueWoken(x, 0, 1, 0, 1, 2, 3, 4, 5);
    }

    private static void wokenFallWithoutBlocks() {
        ChipVolts x = Nets.pair(1, 1);
        SearchSentences.dueWoken(x, 0, 1);
        x.pull(1, 100);
        SearchSentences.dueWoken(x, 0, 1);
        x.block(1, 1);
        SearchSentences.dueWoken(x, 3, 1, 0);
        x.net(2);
        x.wire(0, 1, 1, 1);
        x.pad(0, true);
        SearchSentences.dueWoken(x, 0, 1);
        SearchSentences.dueWoken(Nets.allPads(), 0, 1);
    }

    private static void wokenFallParts() {
        ChipVolts x = Nets.pair(6, 1);
        x.block(1, 5);
        Due.due("above", x.wokenFall(0), 5);
        Due.due("below", x.wokenFall(1), 2);
        Twin.refused("asking changes nothing", Nets::small, v -> v.wokenFall(0), 17);
        Twin.refused("asking changes nothing", Nets::small, v -> v.wokenFall(1), 2);
    }

    private static void wokenFallBad() {
        for (Supplier<ChipVolts> made : Nets.fedAndNot()) {
            Wrong.refuses("wokenFall(what)", made, 0, 1, -2, ChipVolts::wokenFall);
        }
        Wrong.refuses("wokenFall(what) without blocks", Nets::allPads, 0, 1, -2, ChipVolts::wokenFall);
        Wrong.refuses("wokenFall(what) of a new one", ChipVolts::new, 0, 1, -2, ChipVolts::wokenFall);
    }

    private static void wokenFallNo() {
        for (int what = 0; what <= 1; what++) {
            int part = what;
            Twin.refused("of a new one", ChipVolts::new, x -> x.wokenFall(part), -3);
            Twin.refused("not fed", Nets::smallUnfed, x -> x.wokenFall(part), -3);
            Twin.refused("not fed", Nets::unfed, x -> x.wokenFall(part), -3);
        }
    }

    private static void dueCounts(ChipVolts x, int... want) {
        for (int what = 0; what < 6; what++) {
            Due.due("count(" + what + ")", x.count(what), want[what]);
        }
    }

    private static void count() {
        dueCounts(new ChipVolts(), 2, 0, 0, 0, 0, 0);
        dueCounts(Nets.small(), 3, 2, 1, 2, 5, 1);
        dueCounts(Nets.smallUnfed(), 3, 2, 0, 2, 5, 0);
        dueCounts(Nets.fullest(), 7, 12, 1, 6, 100, 1);
        dueCounts(Nets.unfed(), 7, 12, 0, 6, 100, 0);
        dueCounts(Nets.allPads(), 7, 0, 7, 0, 0, 1);
    }

    private static void countBad() {
        for (Supplier<ChipVolts> made : Nets.states()) {
            Wrong.refuses("count(what)", made, 0, 5, -2, ChipVolts::count);
        }
        Wrong.refuses("count(what), not fed", Nets::unfed, 0, 5, -2, ChipVolts::count);
    }

    /** By numbers of any size, cut to 64 bits once at the end. */
    private static void dueDigest(ChipVolts x, List<Long> values) {
        BigInteger h = BigInteger.valueOf(191);
        for (long v : values) {
            h = h.multiply(BigInteger.valueOf(31)).add(BigInteger.valueOf(v));
        }
        Due.due("digest()", x.digest(), h.longValue());
    }

    private static List<Long> values(long... all) {
        List<Long> list = new ArrayList<>();
        for (long v : all) {
            list.add(v);
        }
        return list;
    }

    private static void digestOfNew() {
        dueDigest(new ChipVolts(), values(2, 0, 0, 0, 0, 0, 0, 0, -3, -3, 0, 0, -3, -3));
        dueDigest(Nets.small(), values(3, 2, 1, 2, 5, 1, 0, 1, 0, 1, 0, 0, 3, 1, 6, 0, 5, 1,
                0, 1, 2, 1, 1, 2, 3, 1, 1, 4, 2, 3));
        dueDigest(Nets.smallUnfed(), values(3, 2, 0, 2, 5, 0, 0, 0, -3, -3, 0, 0, -3, -3, 6, 0, -3, -3,
                0, 1, 2, 1, 1, 2, 3, 1, 1, 4, 2, 3));
    }

    /** The greatest net of all has 94 values, each as it is told by the calls. */
    private static void digestOfCounts() {
        for (int pads = 0; pads <= 7; pads++) {
            ChipVolts x = Nets.unfed();
            for (int k = 0; k < pads; k++) {
                x.pad(6 - k, true);
            }
            List<Long> all = values(7, 12, pads, 6, 100, pads > 0 ? 1 : 0);
            for (int k = 0; k < 7; k++) {
                all.addAll(values(100, k > 6 - pads ? 1 : 0, x.fall(k, 0), x.fall(k, 1)));
            }
            for (int[] ends : Nets.FULLEST_ENDS) {
                all.addAll(values(ends[0], ends[1], 6, 100));
            }
            for (int b = 0; b < 6; b++) {
                all.addAll(values(b, 20));
            }
            Due.due("how many values", all.size(), 94);
            dueDigest(x, all);
        }
        ChipVolts x = new ChipVolts();
        x.budget(100);
        dueDigest(x, values(2, 0, 0, 0, 100, 0, 0, 0, -3, -3, 0, 0, -3, -3));
    }

    private static void digestOfKnots() {
        ChipVolts x = Nets.pair(6, 1);
        dueDigest(x, values(2, 1, 1, 0, 0, 1, 0, 1, 0, 1, 0, 0, 0, 1, 0, 1, 6, 1));
        x.pull(1, 100);
        dueDigest(x, values(2, 1, 1, 0, 0, 1, 0, 1, 0, 1, 100, 0, 50, 3, 0, 1, 6, 1));
        x.pull(0, 7);
        dueDigest(x, values(2, 1, 1, 0, 0, 1, 7, 1, 0, 1, 100, 0, 50, 3, 0, 1, 6, 1));
        x.pad(1, true);
        dueDigest(x, values(2, 1, 2, 0, 0, 1, 7, 1, 0, 1, 100, 1, 0, 1, 0, 1, 6, 1));
        x.pad(0, false);
        dueDigest(x, values(2, 1, 1, 0, 0, 1, 7, 0, 7, 6, 100, 1, 0, 1, 0, 1, 6, 1));
        x.pad(1, false);
        dueDigest(x, values(2, 1, 0, 0, 0, 0, 7, 0, -3, -3, 100, 0, -3, -3, 0, 1, 6, 1));
    }

    private static void digestOfWires() {
        ChipVolts x = new ChipVolts();
        x.wire(1, 0, 2, 100);
        dueDigest(x, values(2, 1, 0, 0, 0, 0, 0, 0, -3, -3, 0, 0, -3, -3, 1, 0, 2, 100));
        x.wire(0, 1, 3, 1);
        dueDigest(x, values(2, 2, 0, 0, 0, 0, 0, 0, -3, -3, 0, 0, -3, -3, 1, 0, 2, 100, 0, 1, 3, 1));
        x.width(0, 6);
        dueDigest(x, values(2, 2, 0, 0, 0, 0, 0, 0, -3, -3, 0, 0, -3, -3, 1, 0, 6, 100, 0, 1, 3, 1));
        x.net(2);
        dueDigest(x, values(2, 0, 0, 0, 0, 0, 0, 0, -3, -3, 0, 0, -3, -3));
    }

    private static void digestOfBlocks() {
        ChipVolts x = new ChipVolts();
        x.block(1, 20);
        dueDigest(x, values(2, 0, 0, 1, 0, 0, 0, 0, -3, -3, 0, 0, -3, -3, 1, 20));
        x.block(0, 1);
        dueDigest(x, values(2, 0, 0, 2, 0, 0, 0, 0, -3, -3, 0, 0, -3, -3, 1, 20, 0, 1));
        x.net(2);
        dueDigest(x, values(2, 0, 0, 0, 0, 0, 0, 0, -3, -3, 0, 0, -3, -3));
    }
}
