/** For each promise: ordinary numbers worked by hand, the edges, and wrong numbers. */
public final class PromisesTest {
    private static final int LOW = Integer.MIN_VALUE, HIGH = Integer.MAX_VALUE;
    private static final long FLOW_BAD = -1000000000000L, FLOW_NO = -2000000000000L;

    private PromisesTest() {
    }

    public static void main(String[] args) {
        constants();
        promise1();
        promise2();
        promise3();
        promise4();
        promise5();
        promise6();
        promise7();
        promise8();
        promise9();
        promise10();
        promise11();
        promise12();
        promise13();
        promise13Ties();
        promise14();
        promise15();
        promise16();
        promise17();
        promise18();
        promise18Refused();
        promise19();
        promise20();
        promise21();
        promise21Ties();
        promise22();
        promise22Ties();
        promise23();
        promise24();
        promise25();
        Due.end("PromisesTest");
    }

    /** Knots 0 .. n - 1 in a row, each wire of one width and price 1, knot 0 a pad. */
    private static ChipVolts chain(int n, int width) {
        ChipVolts x = new ChipVolts();
        x.net(n);
        for (int k = 1; k < n; k++) {
            x.wire(k - 1, k, width, 1);
        }
        x.pad(0, true);
        return x;
    }

    private static void dueFall(String call, ChipVolts x, int k, long above, long below) {
        Due.due(call, x.fall(k, 0), x.fall(k, 1), above, below);
    }

    private static void constants() {
        Due.due("NONE", ChipVolts.NONE, -1);
        Due.due("BAD", ChipVolts.BAD, -2);
        Due.due("NO", ChipVolts.NO, -3);
        Due.due("FULL", ChipVolts.FULL, -4);
    }

    private static void promise1() {
        ChipVolts x = new ChipVolts();
        Due.due("1 knots", x.count(0), 2);
        Due.due("1 wires", x.count(1), 0);
        Due.due("1 pads", x.count(2), 0);
        Due.due("1 blocks", x.count(3), 0);
        Due.due("1 budget", x.count(4), 0);
        Due.due("1 fed", x.count(5), 0);
        Due.due("1 pull", x.pull(0, 0), 0);
        Due.due("1 pull", x.pull(1, 0), 0);
        ChipVolts other = new ChipVolts();
        x.wire(0, 1, 1, 1);
        Due.due("1 another object", other.count(1), 0);
    }

    private static void promise2() {
        ChipVolts x = chain(3, 2);
        x.pull(1, 7);
        x.pull(2, 8);
        x.block(1, 5);
        x.budget(9);
        long before = x.digest();
        for (int n : new int[] {1, 8, 0, -1, LOW, HIGH}) {
            Due.due("2 net(" + n + ")", x.net(n), -2);
        }
        Due.due("2 refused changes nothing", x.digest(), before);
        for (int n = 7; n >= 2; n--) {
            Due.due("2 net(" + n + ")", x.net(n), 1);
            Due.due("2 knots", x.count(0), n);
        }
        Due.due("2 same number again", x.net(2), 1);
        Due.due("2 as a new one", x.digest(), new ChipVolts().digest());
        x.net(3);
        for (int k = 0; k < 3; k++) {
            Due.due("2 pull as at first", x.pull(k, 0), 0);
            Due.due("2 no pad", x.pad(k, false), -3);
        }
        Due.due("2 wires as at first", x.width(0, 1), -2);
        Due.due("2 budget as at first", x.budget(0), 0);
        Due.due("2 blocks as at first", x.block(0, 1), 0);
    }

    private static void promise3() {
        ChipVolts x = new ChipVolts();
        x.net(3);
        int[][] bad = {{0, 0, 1, 1}, {2, 2, 1, 1}, {-1, 0, 1, 1}, {0, -1, 1, 1}, {3, 0, 1, 1}, {0, 3, 1, 1},
            {0, 1, 0, 1}, {0, 1, 7, 1}, {0, 1, -1, 1}, {0, 1, 1, 0}, {0, 1, 1, 101}, {0, 1, 1, -1},
            {LOW, 0, 1, 1}, {0, HIGH, 1, 1}, {0, 1, HIGH, 1}, {0, 1, 1, LOW}};
        long before = x.digest();
        for (int[] r : bad) {
            Due.due("3 bad", x.wire(r[0], r[1], r[2], r[3]), -2);
        }
        Due.due("3 bad changes nothing", x.digest(), before);
        for (int w = 0; w < 12; w++) {
            Due.due("3 number", x.wire(w % 3, (w + 1) % 3, 1 + w % 6, w == 0 ? 1 : 100), w);
        }
        before = x.digest();
        Due.due("3 full", x.wire(0, 1, 1, 1), -4);
        Due.due("3 bad before full", x.wire(0, 0, 1, 1), -2);
        Due.due("3 bad before full", x.wire(0, 1, 1, 0), -2);
        Due.due("3 full changes nothing", x.digest(), before);
        Due.due("3 twelve", x.count(1), 12);
        x = chain(2, 1);
        x.wire(1, 0, 2, 1);
        x.pull(1, 12);
        dueFall("3 two wires between the same", x, 1, 4, 1);
    }

    private static void promise4() {
        ChipVolts x = chain(2, 2);
        x.pull(1, 6);
        long before = x.digest();
        int[][] bad = {{-1, 1}, {1, 1}, {0, 0}, {0, 7}, {0, -1}, {LOW, 1}, {HIGH, 1}, {0, LOW}, {0, HIGH}, {12, 1}};
        for (int[] r : bad) {
            Due.due("4 bad", x.width(r[0], r[1]), -2);
        }
        Due.due("4 bad changes nothing", x.digest(), before);
        Due.due("4 was", x.width(0, 6), 2);
        dueFall("4 widest", x, 1, 1, 1);
        Due.due("4 was", x.width(0, 1), 6);
        dueFall("4 least wide", x, 1, 6, 1);
        Due.due("4 was", x.width(0, 1), 1);
    }

    private static void promise5() {
        ChipVolts x = new ChipVolts();
        x.net(3);
        x.wire(0, 1, 1, 1);
        x.wire(1, 2, 1, 1);
        for (int k : new int[] {-1, 3, 7, 32, LOW, HIGH}) {
            Due.due("5 bad", x.pad(k, true), -2);
            Due.due("5 bad", x.pad(k, false), -2);
        }
        Due.due("5 is none", x.pad(2, false), -3);
        Due.due("5 made one", x.pad(2, true), 1);
        Due.due("5 is one", x.pad(2, true), -3);
        Due.due("5 how many", x.count(2), 1);
        Due.due("5 another", x.pad(0, true), 1);
        Due.due("5 how many", x.count(2), 2);
        Due.due("5 made none", x.pad(2, false), 1);
        Due.due("5 is none", x.pad(2, false), -3);
        x.pull(2, 3);
        dueFall("5 by the pad that is left", x, 2, 6, 1);
        Due.due("5 the last", x.pad(0, false), 1);
        Due.due("5 not fed", x.count(5), 0);
    }

    private static void promise6() {
        ChipVolts x = chain(2, 1);
        long before = x.digest();
        int[][] bad = {{-1, 0}, {2, 0}, {0, -1}, {0, 101}, {1, LOW}, {1, HIGH}, {LOW, 0}, {HIGH, 0}};
        for (int[] r : bad) {
            Due.due("6 bad", x.pull(r[0], r[1]), -2);
        }
        Due.due("6 bad changes nothing", x.digest(), before);
        Due.due("6 was", x.pull(1, 100), 0);
        dueFall("6 most", x, 1, 100, 1);
        Due.due("6 was", x.pull(1, 0), 100);
        dueFall("6 nothing", x, 1, 0, 1);
        Due.due("6 of a pad", x.pull(0, 41), 0);
        dueFall("6 a pad's pull", x, 1, 0, 1);
        x.pad(0, false);
        x.pad(1, true);
        dueFall("6 kept", x, 0, 41, 1);
        Due.due("6 kept", x.pull(0, 2), 41);
    }

    private static void promise7() {
        ChipVolts x = chain(3, 2);
        x.wire(0, 2, 1, 1);
        x.pull(1, 3);
        x.pull(2, 4);
        // 4 f1 - 2 f2 = 3, 3 f2 - 2 f1 = 4: f1 = 17/8, f2 = 11/4
        dueFall("7 the pad", x, 0, 0, 1);
        dueFall("7 knot 1", x, 1, 17, 8);
        dueFall("7 knot 2", x, 2, 11, 4);
        int[][] bad = {{-1, 0}, {3, 0}, {0, 2}, {0, -1}, {LOW, 0}, {HIGH, 0}, {1, LOW}, {1, HIGH}};
        for (int[] r : bad) {
            Due.due("7 bad", x.fall(r[0], r[1]), -2);
        }
        x.pad(0, false);
        Due.due("7 not fed", x.fall(0, 0), -3);
        Due.due("7 not fed", x.fall(2, 1), -3);
        Due.due("7 bad before no", x.fall(3, 0), -2);
        Due.due("7 bad before no", x.fall(0, 2), -2);
        x = chain(4, 1);
        x.net(4);
        x.wire(0, 1, 1, 1);
        x.wire(2, 3, 1, 1);
        x.pad(0, true);
        Due.due("7 a part with no pad", x.fall(1, 0), -3);
        x.pad(3, true);
        x.pull(2, 5);
        dueFall("7 each part has a pad", x, 2, 5, 1);
        dueFall("7 pulls nothing", x, 1, 0, 1);
    }

    private static void promise8() {
        ChipVolts x = chain(3, 1);
        Due.due("8 all like", x.greatest(), 0);
        x.pull(1, 5);
        Due.due("8 like ones", x.greatest(), 1);
        x.pull(2, 1);
        Due.due("8 the last", x.greatest(), 2);
        x.pad(2, true);
        Due.due("8 between pads", x.greatest(), 1);
        x.pad(1, true);
        Due.due("8 all pads", x.greatest(), 0);
        x.net(2);
        Due.due("8 not fed", x.greatest(), -3);
    }

    private static void promise9() {
        ChipVolts x = chain(3, 2);
        x.wire(2, 0, 1, 1);
        x.pull(1, 3);
        x.pull(2, 4);
        Due.due("9 from the pad", x.flow(0, 0), x.flow(0, 1), -17, 4);
        Due.due("9 between", x.flow(1, 0), x.flow(1, 1), -5, 4);
        Due.due("9 to the pad", x.flow(2, 0), x.flow(2, 1), 11, 4);
        int[][] bad = {{-1, 0}, {3, 0}, {0, 2}, {0, -1}, {LOW, 0}, {HIGH, 1}, {12, 0}};
        for (int[] r : bad) {
            Due.due("9 bad", x.flow(r[0], r[1]), FLOW_BAD);
        }
        x.pull(1, 0);
        x.pull(2, 0);
        Due.due("9 nothing flows", x.flow(1, 0), x.flow(1, 1), 0, 1);
        x.pad(0, false);
        Due.due("9 not fed", x.flow(0, 0), FLOW_NO);
        Due.due("9 not fed", x.flow(0, 1), FLOW_NO);
        Due.due("9 bad before no", x.flow(3, 0), FLOW_BAD);
        Due.due("9 bad before no", x.flow(0, 2), FLOW_BAD);
    }

    private static void promise10() {
        ChipVolts x = chain(3, 2);
        x.wire(0, 2, 1, 1);
        x.pull(1, 50);
        x.block(2, 20);
        // (4, -2; -2, 3) turned round: (3, 2; 2, 4) by 8
        Due.due("10 (1, 1)", x.resist(1, 1, 0), x.resist(1, 1, 1), 3, 8);
        Due.due("10 (1, 2)", x.resist(1, 2, 0), x.resist(1, 2, 1), 1, 4);
        Due.due("10 (2, 1)", x.resist(2, 1, 0), x.resist(2, 1, 1), 1, 4);
        Due.due("10 (2, 2)", x.resist(2, 2, 0), x.resist(2, 2, 1), 1, 2);
        Due.due("10 a pad", x.resist(0, 1, 0), x.resist(0, 1, 1), 0, 1);
        Due.due("10 a pad", x.resist(1, 0, 0), x.resist(1, 0, 1), 0, 1);
        Due.due("10 a pad", x.resist(0, 0, 0), x.resist(0, 0, 1), 0, 1);
        int[][] bad = {{-1, 0, 0}, {3, 0, 0}, {0, -1, 0}, {0, 3, 0}, {0, 0, 2}, {0, 0, -1}, {LOW, 0, 0}, {0, HIGH, 0}};
        for (int[] r : bad) {
            Due.due("10 bad", x.resist(r[0], r[1], r[2]), -2);
        }
        x.pad(0, false);
        Due.due("10 not fed", x.resist(1, 1, 0), -3);
        Due.due("10 bad before no", x.resist(1, 3, 0), -2);
    }

    private static void promise11() {
        ChipVolts x = new ChipVolts();
        int[][] bad = {{-1, 1}, {2, 1}, {0, 0}, {0, 21}, {0, -1}, {LOW, 1}, {HIGH, 1}, {0, LOW}, {0, HIGH}};
        for (int[] r : bad) {
            Due.due("11 bad", x.block(r[0], r[1]), -2);
        }
        Due.due("11 none yet", x.count(3), 0);
        for (int b = 0; b < 6; b++) {
            Due.due("11 number", x.block(b % 2, b == 0 ? 1 : 20), b);
        }
        long before = x.digest();
        Due.due("11 full", x.block(0, 1), -4);
        Due.due("11 bad before full", x.block(2, 1), -2);
        Due.due("11 bad before full", x.block(0, 21), -2);
        Due.due("11 refused changes nothing", x.digest(), before);
        Due.due("11 six", x.count(3), 6);
    }

    private static void promise12() {
        ChipVolts x = new ChipVolts();
        Due.due("12 was", x.budget(100), 0);
        for (int v : new int[] {-1, 101, LOW, HIGH}) {
            Due.due("12 bad", x.budget(v), -2);
        }
        Due.due("12 is", x.count(4), 100);
        Due.due("12 was", x.budget(0), 100);
        Due.due("12 was", x.budget(0), 0);
    }

    private static void promise13() {
        ChipVolts x = chain(4, 1);
        x.block(1, 4);
        x.block(3, 5);
        x.block(2, 6);
        x.pull(1, 100);
        Due.due("13 no budget", x.worst(3, 1), 0);
        x.budget(9);
        // R(3, .) is 1, 3, 2 for the knots of blocks 0, 1, 2
        Due.due("13 the nearest first", x.worst(3, 1), 5);
        Due.due("13 then the rest", x.worst(3, 2), 4);
        Due.due("13 nothing left", x.worst(3, 0), 0);
        x.budget(100);
        Due.due("13 all its most", x.worst(3, 0), 4);
        Due.due("13 all its most", x.worst(3, 1), 5);
        Due.due("13 all its most", x.worst(3, 2), 6);
        int[][] bad = {{-1, 0}, {4, 0}, {0, -1}, {0, 3}, {0, 6}, {LOW, 0}, {0, HIGH}};
        for (int[] r : bad) {
            Due.due("13 bad", x.worst(r[0], r[1]), -2);
        }
        x.pad(0, false);
        Due.due("13 not fed", x.worst(3, 0), -3);
        Due.due("13 bad before no", x.worst(3, 3), -2);
    }

    private static void promise13Ties() {
        ChipVolts x = chain(4, 1);
        x.block(3, 4);
        x.block(0, 5);
        x.block(2, 6);
        x.block(0, 7);
        x.budget(8);
        // R(1, .) is 1 for the knots of blocks 0 and 2, 0 for a pad's
        Due.due("13 like ones by number", x.worst(1, 0), 4);
        Due.due("13 like ones by number", x.worst(1, 2), 4);
        Due.due("13 like ones by number", x.worst(1, 1), 0);
        x.budget(16);
        Due.due("13 also those with 0", x.worst(1, 1), 5);
        Due.due("13 also those with 0", x.worst(1, 3), 1);
        Due.due("13 for a pad", x.worst(0, 0), 4);
        Due.due("13 for a pad", x.worst(0, 1), 5);
        Due.due("13 for a pad", x.worst(0, 2), 6);
        Due.due("13 for a pad", x.worst(0, 3), 1);
    }

    private static void promise14() {
        ChipVolts x = chain(4, 2);
        x.pull(1, 100);
        Due.due("14 no blocks", x.worstFall(3, 0), x.worstFall(3, 1), 0, 1);
        x.block(1, 4);
        x.block(3, 5);
        x.block(2, 6);
        x.budget(9);
        Due.due("14 knot 3", x.worstFall(3, 0), x.worstFall(3, 1), 23, 2);
        Due.due("14 knot 1", x.worstFall(1, 0), x.worstFall(1, 1), 9, 2);
        Due.due("14 the pad", x.worstFall(0, 0), x.worstFall(0, 1), 0, 1);
        int[][] bad = {{-1, 0}, {4, 0}, {0, 2}, {0, -1}, {LOW, 0}, {0, HIGH}};
        for (int[] r : bad) {
            Due.due("14 bad", x.worstFall(r[0], r[1]), -2);
        }
        x.pad(0, false);
        Due.due("14 not fed", x.worstFall(0, 0), -3);
        Due.due("14 bad before no", x.worstFall(4, 0), -2);
    }

    private static void promise15() {
        ChipVolts x = chain(4, 1);
        x.pull(3, 100);
        Due.due("15 no blocks", x.worstKnot(), 0);
        x.block(1, 4);
        x.budget(4);
        Due.due("15 like ones", x.worstKnot(), 1);
        x.block(2, 1);
        Due.due("15 like ones", x.worstKnot(), 2);
        x.pad(3, true);
        // (1, 2; 2, 1) by 3: knot 1 falls 4 * 2/3, knot 2 (1 * 2 + 3 * 1)/3
        Due.due("15 between pads", x.worstKnot(), 1);
        x.pad(0, false);
        x.pad(3, false);
        Due.due("15 not fed", x.worstKnot(), -3);
    }

    private static void promise16() {
        ChipVolts x = chain(3, 2);
        x.wire(0, 2, 1, 1);
        x.wire(0, 1, 2, 1);
        x.pull(1, 3);
        x.pull(2, 4);
        long before = x.digest();
        Due.due("16 without 0", x.open(0, 0), x.open(0, 1), 11, 4);
        Due.due("16 without 1", x.open(1, 0), x.open(1, 1), 4, 1);
        Due.due("16 without 2", x.open(2, 0), x.open(2, 1), 15, 4);
        Due.due("16 stays", x.digest(), before);
        int[][] bad = {{-1, 0}, {4, 0}, {0, 2}, {0, -1}, {LOW, 0}, {0, HIGH}, {12, 0}};
        for (int[] r : bad) {
            Due.due("16 bad", x.open(r[0], r[1]), -2);
        }
        x = chain(3, 1);
        Due.due("16 not fed without it", x.open(1, 0), -3);
        Due.due("16 not fed without it", x.open(1, 1), -3);
        Due.due("16 bad before no", x.open(2, 1), -2);
        x.pad(0, false);
        Due.due("16 not fed at all", x.open(0, 0), -3);
        x.pad(0, true);
        x.pad(1, true);
        Due.due("16 between pads", x.open(0, 0), x.open(0, 1), 0, 1);
    }

    private static void promise17() {
        ChipVolts x = chain(3, 1);
        x.wire(0, 2, 1, 1);
        x.pull(2, 6);
        // without 0: 6, without 1: 6, without 2: 12
        Due.due("17 the greatest fall", x.weakest(), 2);
        x.pull(1, 6);
        // without 0: f2 12, f1 18; without 1: 6; without 2: 18
        Due.due("17 like ones", x.weakest(), 0);
        x.net(3);
        Due.due("17 no wires", x.weakest(), -1);
        x.wire(0, 1, 1, 1);
        x.wire(0, 1, 1, 1);
        Due.due("17 never fed", x.weakest(), 0);
        x.wire(1, 2, 6, 1);
        x.pad(0, true);
        x.pull(1, 100);
        Due.due("17 not fed without it", x.weakest(), 2);
        x.pad(2, true);
        Due.due("17 all fed", x.weakest(), 2);
        x.pad(1, true);
        Due.due("17 all pads", x.weakest(), 0);
    }

    private static void promise18() {
        ChipVolts x = new ChipVolts();
        x.net(4);
        x.wire(0, 3, 2, 1);
        x.wire(1, 3, 3, 1);
        x.wire(2, 3, 1, 1);
        x.wire(0, 1, 4, 1);
        x.wire(1, 0, 5, 1);
        x.pull(1, 7);
        Due.due("18 all ports", x.shrunk(15, 0, 1, 0), x.shrunk(15, 0, 1, 1), 9, 1);
        Due.due("18 all ports", x.shrunk(15, 2, 1, 0), x.shrunk(15, 2, 1, 1), 0, 1);
        Due.due("18 without 3", x.shrunk(7, 0, 1, 0), x.shrunk(7, 0, 1, 1), 10, 1);
        Due.due("18 without 3", x.shrunk(7, 1, 0, 0), x.shrunk(7, 1, 0, 1), 10, 1);
        Due.due("18 without 3", x.shrunk(7, 0, 2, 0), x.shrunk(7, 0, 2, 1), 1, 3);
        Due.due("18 without 3", x.shrunk(7, 1, 2, 0), x.shrunk(7, 1, 2, 1), 1, 2);
        // 10 + (1/3 * 1/2) / (5/6)
        Due.due("18 two alone", x.shrunk(3, 0, 1, 0), x.shrunk(3, 0, 1, 1), 51, 5);
        x.pad(0, true);
        Due.due("18 a pad is a port", x.shrunk(3, 0, 1, 0), x.shrunk(3, 0, 1, 1), 51, 5);
        x = chain(7, 6);
        Due.due("18 a long row", x.shrunk(65, 0, 6, 0), x.shrunk(65, 6, 0, 1), 1, 1);
    }

    private static void promise18Refused() {
        ChipVolts x = chain(4, 1);
        int[][] bad = {{0, 0, 1, 0}, {-1, 0, 1, 0}, {16, 0, 1, 0}, {17, 0, 1, 0}, {31, 0, 1, 0}, {15, -1, 1, 0}, {15, 0, 4, 0},
            {15, 0, 0, 0}, {15, 0, 1, 2}, {15, 0, 1, -1}, {5, 0, 1, 0}, {5, 1, 0, 0}, {10, 0, 1, 0}, {LOW, 0, 1, 0},
            {HIGH, 0, 1, 0}, {15, LOW, 0, 0}, {15, 0, HIGH, 0}, {3, 0, 33, 0}};
        for (int[] r : bad) {
            Due.due("18 bad", x.shrunk(r[0], r[1], r[2], r[3]), -2);
        }
        Due.due("18 a pad that is no port", x.shrunk(6, 1, 2, 0), -3);
        x.pad(0, false);
        Due.due("18 needs no pads", x.shrunk(6, 1, 2, 0), x.shrunk(6, 1, 2, 1), 1, 1);
        x.net(4);
        x.wire(0, 1, 3, 1);
        Due.due("18 one leads to no port", x.shrunk(7, 0, 1, 0), -3);
        x.wire(2, 3, 1, 1);
        Due.due("18 two lead to no port", x.shrunk(3, 0, 1, 0), -3);
        Due.due("18 now it leads", x.shrunk(7, 0, 1, 0), x.shrunk(7, 0, 1, 1), 3, 1);
        Due.due("18 ports apart", x.shrunk(7, 0, 2, 0), x.shrunk(7, 0, 2, 1), 0, 1);
        Due.due("18 bad before no", x.shrunk(3, 0, 2, 0), -2);
        x.net(2);
        Due.due("18 no wires", x.shrunk(3, 0, 1, 0), x.shrunk(3, 0, 1, 1), 0, 1);
    }

    private static void promise19() {
        ChipVolts x = chain(5, 1);
        x.pull(4, 1);
        x.pull(2, 1);
        long before = x.digest();
        // pad 2 leaves 2 at knot 4, pad 4 leaves 2 at 2, pad 3: 1
        Due.due("19 one", x.pads(1), 8);
        // 4 with one of 0 .. 3: least with 2
        Due.due("19 two", x.pads(2), 20);
        Due.due("19 three, of like ones the least", x.pads(3), 21);
        Due.due("19 pads stay", x.digest(), before);
        x.pull(4, 0);
        x.pull(2, 0);
        Due.due("19 nothing pulls", x.pads(1), 1);
        Due.due("19 nothing pulls", x.pads(3), 7);
        for (int j : new int[] {0, 4, -1, LOW, HIGH}) {
            Due.due("19 bad", x.pads(j), -2);
        }
        x.net(2);
        Due.due("19 more than knots", x.pads(3), -2);
        Due.due("19 by none", x.pads(1), -3);
        Due.due("19 all knots", x.pads(2), 3);
        x.net(4);
        x.wire(0, 1, 1, 1);
        x.wire(2, 3, 1, 1);
        x.pull(3, 4);
        x.pull(2, 2);
        Due.due("19 by none", x.pads(1), -3);
        Due.due("19 one in each part", x.pads(2), 9);
        x.pad(3, true);
        x.pull(0, 1);
        Due.due("19 what a pad pulls counts", x.pads(2), 9);
        Due.due("19 three", x.pads(3), 13);
    }

    private static void promise20() {
        ChipVolts x = new ChipVolts();
        x.net(3);
        x.wire(0, 1, 1, 10);
        x.wire(1, 2, 1, 1);
        x.pad(0, true);
        x.pull(2, 12);
        long before = x.digest();
        // falls 12 and 24 at first; knot 2 falls 12/a + 12/b
        Due.due("20 as it is", x.widen(24, 0), 0);
        Due.due("20 not as it is", x.widen(23, 0), -1);
        Due.due("20 one more", x.widen(18, 1), 1);
        Due.due("20 the cheap one", x.widen(18, 3), 1);
        Due.due("20 two more", x.widen(16, 3), 2);
        Due.due("20 both", x.widen(12, 2), 11);
        Due.due("20 three", x.widen(10, 3), 12);
        Due.due("20 it can't be", x.widen(9, 3), -1);
        Due.due("20 widths stay", x.digest(), before);
        int[][] bad = {{-1, 0}, {1001, 0}, {0, -1}, {0, 4}, {LOW, 0}, {HIGH, 0}, {0, LOW}, {0, HIGH}};
        for (int[] r : bad) {
            Due.due("20 bad", x.widen(r[0], r[1]), -2);
        }
        Due.due("20 the most", x.widen(1000, 3), 0);
        x.pad(0, false);
        Due.due("20 not fed", x.widen(1000, 3), -3);
        Due.due("20 bad before no", x.widen(1001, 3), -2);
        x = chain(2, 5);
        x.pull(1, 30);
        Due.due("20 up to six", x.widen(5, 3), 1);
        Due.due("20 none above six", x.widen(4, 3), -1);
        x.net(2);
        x.pad(0, true);
        x.pad(1, true);
        Due.due("20 no wires", x.widen(0, 3), 0);
    }

    private static void promise21() {
        ChipVolts x = new ChipVolts();
        x.net(3);
        x.wire(0, 1, 1, 10);
        x.wire(1, 2, 1, 1);
        x.pad(0, true);
        x.pull(2, 12);
        long before = x.digest();
        Due.due("21 both", x.widened(10, 3, 0), 1);
        Due.due("21 both", x.widened(10, 3, 1), 2);
        Due.due("21 one", x.widened(18, 3, 0), 0);
        Due.due("21 one", x.widened(18, 3, 1), 1);
        Due.due("21 as it is", x.widened(24, 3, 0), 0);
        Due.due("21 as it is", x.widened(24, 3, 1), 0);
        Due.due("21 it can't be", x.widened(9, 3, 0), -1);
        Due.due("21 widths stay", x.digest(), before);
        int[][] bad = {{-1, 0, 0}, {1001, 0, 0}, {0, -1, 0}, {0, 4, 0}, {0, 0, -1}, {0, 0, 2}, {0, 0, 12}, {0, 0, LOW},
            {0, 0, HIGH}, {LOW, 0, 0}, {0, HIGH, 0}};
        for (int[] r : bad) {
            Due.due("21 bad", x.widened(r[0], r[1], r[2]), -2);
        }
        x.pad(0, false);
        Due.due("21 not fed", x.widened(1000, 3, 0), -3);
        Due.due("21 bad before no", x.widened(1000, 3, 2), -2);
    }

    private static void promise21Ties() {
        ChipVolts x = chain(3, 1);
        x.pull(2, 12);
        Due.due("21 like: the first wire", x.widened(18, 1, 0), 1);
        Due.due("21 like: the first wire", x.widened(18, 1, 1), 0);
        // of 2 and 1 or 1 and 2 more: 12/3 + 12/2 either way
        Due.due("21 like: the greatest row", x.widened(10, 3, 0), 2);
        Due.due("21 like: the greatest row", x.widened(10, 3, 1), 1);
        x.net(2);
        x.wire(0, 1, 1, 1);
        x.wire(0, 1, 1, 2);
        x.pad(0, true);
        x.pull(1, 4);
        Due.due("21 the cheaper", x.widen(1, 2), 2);
        Due.due("21 the cheaper", x.widened(1, 2, 0), 2);
        x.net(3);
        x.wire(0, 1, 2, 1);
        x.wire(1, 2, 2, 2);
        x.pad(0, true);
        x.pull(2, 12);
        // falls 6 + 6 at first; 10: 12/3 + 6 (1), 12/4 + 6 = 9 (2), 6 + 4 (2)
        Due.due("21 ten", x.widen(10, 3), 1);
        // 9: 2 on the cheap one for 2
        Due.due("21 nine", x.widened(9, 3, 0), 2);
        x.width(0, 5);
        x.width(1, 4);
        x.pull(2, 60);
        // 12 + 15 at first; 10 + 15 for 1; 12 + 12 for 2
        Due.due("21 the cheap one is enough", x.widened(25, 3, 0), 1);
        Due.due("21 the dear one is needed", x.widened(24, 3, 1), 1);
        Due.due("21 the dear one is needed", x.widened(24, 3, 0), 0);
        fewest();
    }

    /** One more on a wire of price 2 or two on a wire of price 1: the one. */
    private static void fewest() {
        ChipVolts x = new ChipVolts();
        x.net(4);
        x.wire(0, 1, 4, 1);
        x.wire(1, 2, 1, 1);
        x.wire(2, 3, 2, 2);
        x.pad(0, true);
        x.pad(3, true);
        x.pull(2, 56);
        // 56 by (4/5 + 2) is 20; by (4/5 + 3) or (12/7 + 2) it is below 16, by (10/7 + 2) above
        Due.due("21 for like price", x.widen(16, 3), 2);
        Due.due("21 the fewest", x.widened(16, 3, 2), 1);
        Due.due("21 the fewest", x.widened(16, 3, 1), 0);
        Due.due("21 the fewest", x.widened(16, 3, 0), 0);
    }

    private static void promise22() {
        ChipVolts x = chain(3, 1);
        Due.due("22 no blocks", x.woken(0), -1);
        x.block(1, 1);
        x.block(2, 5);
        x.pull(2, 100);
        x.budget(0);
        // 0 first: 3, then 1 + 30; 1 first: 30, then 10 + 3
        Due.due("22 the first", x.woken(0), 1);
        Due.due("22 the second", x.woken(1), 0);
        Due.due("22 not so many", x.woken(2), -1);
        Due.due("22 not so many", x.woken(HIGH), -1);
        Due.due("22 not so many", x.woken(-1), -1);
        Due.due("22 not so many", x.woken(LOW), -1);
        x.pad(0, false);
        Due.due("22 not fed", x.woken(0), -3);
        Due.due("22 not fed", x.woken(5), -3);
    }

    private static void promise22Ties() {
        ChipVolts x = chain(3, 1);
        x.block(1, 2);
        x.block(1, 2);
        x.block(2, 9);
        // the great one has to be first, the others are like
        Due.due("22 the great one", x.woken(0), 2);
        Due.due("22 like ones by number", x.woken(1), 0);
        Due.due("22 like ones by number", x.woken(2), 1);
        x.block(0, 20);
        x.block(2, 1);
        // a pad's block costs nothing, so that it can be the first
        Due.due("22 on a pad", x.woken(0), 2);
        Due.due("22 by number", x.woken(1), 0);
        Due.due("22 by number", x.woken(2), 1);
        Due.due("22 by number", x.woken(3), 3);
        Due.due("22 by number", x.woken(4), 4);
    }

    private static void promise23() {
        ChipVolts x = chain(3, 2);
        x.pull(2, 100);
        Due.due("23 no blocks", x.wokenFall(0), x.wokenFall(1), 0, 1);
        x.block(2, 3);
        Due.due("23 one", x.wokenFall(0), x.wokenFall(1), 9, 1);
        x.block(1, 5);
        // 0 first: 9, then knot 2 falls 3 + 15/2; 1 first: 15/2, then 9 + 5/2
        Due.due("23 two", x.wokenFall(0), x.wokenFall(1), 21, 2);
        Due.due("23 the order", x.woken(0), 0);
        for (int what : new int[] {-1, 2, LOW, HIGH}) {
            Due.due("23 bad", x.wokenFall(what), -2);
        }
        x.pad(0, false);
        Due.due("23 not fed", x.wokenFall(0), -3);
        Due.due("23 not fed", x.wokenFall(1), -3);
        Due.due("23 bad before no", x.wokenFall(2), -2);
    }

    private static void promise24() {
        ChipVolts x = chain(5, 1);
        x.pad(3, true);
        x.block(1, 1);
        x.block(1, 1);
        x.block(4, 1);
        x.budget(77);
        long[] want = {5, 4, 2, 3, 77, 1};
        for (int what = 0; what <= 5; what++) {
            Due.due("24 count(" + what + ")", x.count(what), want[what]);
        }
        for (int what : new int[] {-1, 6, LOW, HIGH}) {
            Due.due("24 bad", x.count(what), -2);
        }
        x.pad(0, false);
        Due.due("24 fed by one", x.count(5), 1);
        x.pad(3, false);
        Due.due("24 not fed", x.count(5), 0);
    }

    private static long mixed(long... values) {
        long h = 191;
        for (long v : values) {
            h = 31 * h + v;
        }
        return h;
    }

    private static void promise25() {
        ChipVolts x = new ChipVolts();
        Due.due("25 new", x.digest(), mixed(2, 0, 0, 0, 0, 0, 0, 0, -3, -3, 0, 0, -3, -3));
        x.net(3);
        x.wire(1, 0, 2, 9);
        x.wire(2, 1, 3, 10);
        x.pad(0, true);
        x.pull(0, 4);
        x.pull(2, 5);
        x.block(2, 11);
        x.block(1, 12);
        x.budget(13);
        Due.due("25 fed", x.digest(), mixed(3, 2, 1, 2, 13, 1, 4, 1, 0, 1, 0, 0, 5, 2, 5, 0, 25, 6,
                1, 0, 2, 9, 2, 1, 3, 10, 2, 11, 1, 12));
        x.pad(0, false);
        Due.due("25 not fed", x.digest(), mixed(3, 2, 0, 2, 13, 0, 4, 0, -3, -3, 0, 0, -3, -3, 5, 0, -3, -3,
                1, 0, 2, 9, 2, 1, 3, 10, 2, 11, 1, 12));
        Due.due("25 changes nothing", x.digest(), x.digest());
    }
}
