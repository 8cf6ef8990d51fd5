import java.util.function.Supplier;

/** Each sentence of the promises 1 to 10. */
final class NetPromises {
    private NetPromises() {
    }

    static void all() {
        newObject();
        changes();
        asks();
    }

    private static void newObject() {
        String p = "Promise 1";
        Sentence.holds(p, "Two KNOTS,", NetPromises::twoKnots);
        Sentence.holds(p, "no WIRES,", NetPromises::noWires);
        Sentence.holds(p, "no PADS,", NetPromises::noPads);
        Sentence.holds(p, "no BLOCKS,", NetPromises::noBlocks);
        Sentence.holds(p, "BUDGET 0.", NetPromises::noBudget);
    }

    private static void changes() {
        Sentence.holds("Promise 2", "n KNOTS,", NetPromises::netKnots);
        Sentence.holds("Promise 2", "all else as at first:", NetPromises::netAllElse);
        Sentence.holds("Promise 2", "1.", NetPromises::netOne);
        Sentence.holds("Promise 2", "BAD.", NetPromises::netBad);
        Sentence.holds("Promise 3", "A WIRE: its number.", NetPromises::wireNumber);
        Sentence.holds("Promise 3", "BAD:", NetPromises::wireBad);
        Sentence.holds("Promise 3", "also a KNOT with itself;", NetPromises::wireWithItself);
        Sentence.holds("Promise 3", "FULL: 12.", NetPromises::wireFull);
        Sentence.holds("Promise 3", "(Two may lie between the same KNOTS.)", NetPromises::wiresBetweenTheSame);
        Sentence.holds("Promise 4", "WIDTH of a WIRE: what it was.", NetPromises::widthWas);
        Sentence.holds("Promise 4", "BAD.", NetPromises::widthBad);
        Sentence.holds("Promise 5", "A KNOT is a PAD, or none: 1.", NetPromises::padOrNone);
        Sentence.holds("Promise 5", "BAD;", NetPromises::padBad);
        Sentence.holds("Promise 5", "NO: it is so.", NetPromises::padIsSo);
        Sentence.holds("Promise 6", "What a KNOT PULLS: what it did.", NetPromises::pullDid);
        Sentence.holds("Promise 6", "BAD.", NetPromises::pullBad);
        Sentence.holds("Promise 6", "(Of a PAD it is kept.)", NetPromises::pullOfPad);
    }

    private static void asks() {
        Sentence.holds("Promise 7", "THE FALL of a KNOT: above (what = 0), below (1).", NetPromises::fallParts);
        Sentence.holds("Promise 7", "BAD,", NetPromises::fallBad);
        Sentence.holds("Promise 7", "NO.", NetPromises::fallNo);
        Sentence.holds("Promise 8", "THE GREATEST.", NetPromises::greatest);
        Sentence.holds("Promise 8", "NO.", NetPromises::greatestNo);
        Sentence.holds("Promise 9", "THE FLOW of a WIRE,", NetPromises::flow);
        Sentence.holds("Promise 9", "above it may be below 0: above, below.", NetPromises::flowBelow0);
        Sentence.holds("Promise 9", "BAD: -1000000000000;", NetPromises::flowBad);
        Sentence.holds("Promise 9", "NO: -2000000000000.", NetPromises::flowNo);
        Sentence.holds("Promise 10", "R(a, b): above, below.", NetPromises::resistParts);
        Sentence.holds("Promise 10", "BAD,", NetPromises::resistBad);
        Sentence.holds("Promise 10", "NO.", NetPromises::resistNo);
    }

    private static void twoKnots() {
        Due.due("count(0)", new ChipVolts().count(0), 2);
        Due.due("knot 1", new ChipVolts().pull(1, 3), 0);
        Due.due("knot 2", new ChipVolts().pull(2, 3), -2);
        Due.due("knot -1", new ChipVolts().pull(-1, 3), -2);
    }

    private static void noWires() {
        ChipVolts x = new ChipVolts();
        Due.due("count(1)", x.count(1), 0);
        Due.due("width(0, 1)", x.width(0, 1), -2);
        Due.due("weakest()", x.weakest(), -1);
        Due.due("the first", x.wire(0, 1, 1, 1), 0);
        Due.due("of another object", new ChipVolts().count(1), 0);
    }

    private static void noPads() {
        ChipVolts x = new ChipVolts();
        Due.due("count(2)", x.count(2), 0);
        Due.due("pad(0, false)", x.pad(0, false), -3);
        Due.due("pad(1, false)", x.pad(1, false), -3);
        Due.due("count(5)", x.count(5), 0);
    }

    private static void noBlocks() {
        ChipVolts x = new ChipVolts();
        Due.due("count(3)", x.count(3), 0);
        Due.due("worst(0, 0)", x.worst(0, 0), -2);
        Due.due("the first", x.block(0, 1), 0);
    }

    private static void noBudget() {
        ChipVolts x = new ChipVolts();
        Due.due("count(4)", x.count(4), 0);
        Due.due("budget(0)", x.budget(0), 0);
    }

    private static void netKnots() {
        for (int from = 2; from <= 7; from++) {
            for (int n = 2; n <= 7; n++) {
                ChipVolts x = new ChipVolts();
                x.net(from);
                x.net(n);
                Due.due(n + " after " + from, x.count(0), n);
                Due.due("knot " + (n - 1), x.pull(n - 1, 0), 0);
                Due.due("knot " + n, x.pull(n, 0), -2);
            }
        }
    }

    private static void netAllElse() {
        for (int n = 2; n <= 7; n++) {
            ChipVolts x = Nets.fullest();
            x.net(n);
            ChipVolts fresh = new ChipVolts();
            fresh.net(n);
            Due.due("as a new one with net(" + n + ")", Twin.told(x).equals(Twin.told(fresh)) ? 1 : 0, 1);
            for (int k = 0; k < n; k++) {
                Due.due("what knot " + k + " pulls", x.pull(k, 0), 0);
                Due.due("whether it is a pad", x.pad(k, false), -3);
            }
            Due.due("the budget", x.budget(3), 0);
            Due.due("the first wire", x.wire(0, 1, 1, 1), 0);
            Due.due("the first block", x.block(0, 1), 0);
        }
        ChipVolts x = Nets.small();
        x.net(3);
        ChipVolts fresh = new ChipVolts();
        fresh.net(3);
        Due.due("of as many knots as before", Twin.told(x).equals(Twin.told(fresh)) ? 1 : 0, 1);
    }

    private static void netOne() {
        Due.due("of a new object", new ChipVolts().net(2), 1);
        Due.due("of a new object", new ChipVolts().net(7), 1);
        Due.due("of the same number", Nets.small().net(3), 1);
        Due.due("of a full one", Nets.fullest().net(7), 1);
    }

    private static void netBad() {
        Wrong.refuses("net", ChipVolts::new, 2, 7, -2, ChipVolts::net);
        Wrong.refuses("net", Nets::fullest, 2, 7, -2, ChipVolts::net);
    }

    private static void wireNumber() {
        ChipVolts x = Nets.small();
        Due.due("after two", x.wire(2, 0, 1, 1), 2);
        x.wire(0, 0, 1, 1);
        Due.due("after one refused", x.wire(2, 0, 1, 1), 3);
        x.net(3);
        Due.due("after net", x.wire(2, 0, 1, 1), 0);
        ChipVolts last = Nets.cable(11, 1);
        Due.due("the twelfth", last.wire(0, 1, 1, 1), 11);
    }

    private static void wireBad() {
        for (Supplier<ChipVolts> made : Nets.states()) {
            int last = made.get().count(0) - 1;
            if (made.get().count(1) < 12) {
                Wrong.refuses("wire(a, last, 1, 1)", made, 0, last - 1, -2, (x, v) -> x.wire(v, last, 1, 1));
                Wrong.refuses("wire(0, b, 1, 1)", made, 1, last, -2, (x, v) -> x.wire(0, v, 1, 1));
            }
            Wrong.refuses("wire(0, 1, width, 1)", made, 1, 6, -2, (x, v) -> x.wire(0, 1, v, 1));
            Wrong.refuses("wire(0, 1, 1, price)", made, 1, 100, -2, (x, v) -> x.wire(0, 1, 1, v));
        }
        Twin.refused("all of it wrong", Nets::small, x -> x.wire(-1, 3, 0, 0), -2);
    }

    private static void wireWithItself() {
        for (int k = 0; k < 7; k++) {
            int knot = k;
            Twin.refused("wire(" + k + ", " + k + ", 1, 1), full", Nets::fullest, x -> x.wire(knot, knot, 1, 1), -2);
        }
        Twin.refused("wire(0, 0, 6, 100)", ChipVolts::new, x -> x.wire(0, 0, 6, 100), -2);
        Twin.refused("wire(1, 1, 1, 1)", ChipVolts::new, x -> x.wire(1, 1, 1, 1), -2);
        Twin.refused("wire(2, 2, 1, 1)", Nets::small, x -> x.wire(2, 2, 1, 1), -2);
    }

    private static void wireFull() {
        Due.due("with ten", Nets.cable(10, 1).wire(0, 1, 1, 1), 10);
        Due.due("with eleven", Nets.cable(11, 1).wire(0, 1, 1, 1), 11);
        Twin.refused("with twelve", () -> Nets.cable(12, 1), x -> x.wire(0, 1, 1, 1), -4);
        Twin.refused("with twelve", Nets::fullest, x -> x.wire(6, 0, 6, 100), -4);
        Twin.refused("with twelve, unfed", Nets::unfed, x -> x.wire(0, 6, 1, 1), -4);
    }

    private static void wiresBetweenTheSame() {
        for (int wires = 1; wires <= 12; wires++) {
            ChipVolts x = Nets.cable(wires, 6);
            Due.due("wires", x.count(1), wires);
            x.pull(1, wires);
            NetSentences.dueFall(x, 1, 1, 6);
            NetSentences.dueFlow(x, wires - 1, -1, 1);
        }
        ChipVolts x = Nets.pair(1, 1);
        Due.due("the other way round", x.wire(1, 0, 2, 1), 1);
        x.pull(1, 12);
        NetSentences.dueFall(x, 1, 4, 1);
        NetSentences.dueFlow(x, 0, -4, 1);
        NetSentences.dueFlow(x, 1, 8, 1);
    }

    private static void widthWas() {
        ChipVolts x = Nets.cable(12, 1);
        for (int w = 0; w < 12; w += 11) {
            Due.due("1 to 6", x.width(w, 6), 1);
            Due.due("6 to 6", x.width(w, 6), 6);
            Due.due("6 to 1", x.width(w, 1), 6);
            Due.due("1 to 1", x.width(w, 1), 1);
        }
        Due.due("1 to 5", x.width(11, 5), 1);
        Due.due("another is as before", x.width(10, 2), 1);
        x.pull(1, 51);
        // ten of 1, one of 2, one of 5
        NetSentences.dueFall(x, 1, 3, 1);
    }

    private static void widthBad() {
        for (Supplier<ChipVolts> made : Nets.states()) {
            int last = made.get().count(1) - 1;
            Wrong.refuses("width(w, 1)", made, 0, last, -2, (x, v) -> x.width(v, 1));
            if (last >= 0) {
                Wrong.refuses("width(0, v)", made, 1, 6, -2, (x, v) -> x.width(0, v));
                Wrong.refuses("width(last, v)", made, 1, 6, -2, (x, v) -> x.width(last, v));
            }
        }
    }

    private static void padOrNone() {
        ChipVolts x = Nets.unfed();
        for (int k = 0; k < 7; k += 6) {
            Due.due("a pad", x.pad(k, true), 1);
            Due.due("how many", x.count(2), 1);
            NetSentences.dueFall(x, k, 0, 1);
            Due.due("none", x.pad(k, false), 1);
            Due.due("how many", x.count(2), 0);
            Due.due("not fed", x.fall(k, 0), -3);
        }
    }

    private static void padBad() {
        for (Supplier<ChipVolts> made : Nets.states()) {
            int last = made.get().count(0) - 1;
            Wrong.refuses("pad(k, true)", made, 0, last, -2, (x, v) -> x.pad(v, true));
            Wrong.refuses("pad(k, false)", made, 0, last, -2, (x, v) -> x.pad(v, false));
        }
    }

    private static void padIsSo() {
        Twin.refused("none of a new one's first", ChipVolts::new, x -> x.pad(0, false), -3);
        Twin.refused("none of a new one's last", ChipVolts::new, x -> x.pad(1, false), -3);
        Twin.refused("the pad", Nets::small, x -> x.pad(0, true), -3);
        Twin.refused("another", Nets::small, x -> x.pad(1, false), -3);
        Twin.refused("the last", Nets::fullest, x -> x.pad(6, true), -3);
        for (int k = 0; k < 7; k++) {
            int knot = k;
            Twin.refused("each", Nets::allPads, x -> x.pad(knot, true), -3);
            Twin.refused("each", Nets::unfed, x -> x.pad(knot, false), -3);
        }
    }

    private static void pullDid() {
        ChipVolts x = Nets.unfed();
        for (int k = 0; k < 7; k += 6) {
            Due.due("100 to 0", x.pull(k, 0), 100);
            Due.due("0 to 0", x.pull(k, 0), 0);
            Due.due("0 to 100", x.pull(k, 100), 0);
            Due.due("100 to 100", x.pull(k, 100), 100);
            Due.due("100 to 99", x.pull(k, 99), 100);
            Due.due("99 to 1", x.pull(k, 1), 99);
            Due.due("1 to 0", x.pull(k, 0), 1);
        }
        Due.due("another is as before", x.pull(3, 0), 100);
    }

    private static void pullBad() {
        for (Supplier<ChipVolts> made : Nets.states()) {
            int last = made.get().count(0) - 1;
            Wrong.refuses("pull(k, 7)", made, 0, last, -2, (x, v) -> x.pull(v, 7));
            Wrong.refuses("pull(0, v)", made, 0, 100, -2, (x, v) -> x.pull(0, v));
            Wrong.refuses("pull(last, v)", made, 0, 100, -2, (x, v) -> x.pull(last, v));
        }
    }

    private static void pullOfPad() {
        ChipVolts x = Nets.pair(1, 1);
        x.pull(1, 100);
        x.pad(1, true);
        NetSentences.dueFall(x, 1, 0, 1);
        x.pad(1, false);
        NetSentences.dueFall(x, 1, 100, 1);
        x.pad(1, true);
        Due.due("told while a pad: what it did", x.pull(1, 7), 100);
        Due.due("told while a pad: what it did", x.pull(1, 9), 7);
        x.pad(1, false);
        NetSentences.dueFall(x, 1, 9, 1);
    }

    private static void fallParts() {
        ChipVolts x = Nets.pair(3, 1);
        x.pull(1, 100);
        Due.due("what = 0", x.fall(1, 0), 100);
        Due.due("what = 1", x.fall(1, 1), 3);
        Due.due("what = 0 of the pad", x.fall(0, 0), 0);
        Due.due("what = 1 of the pad", x.fall(0, 1), 1);
    }

    private static void fallBad() {
        for (Supplier<ChipVolts> made : Nets.fedAndNot()) {
            int last = made.get().count(0) - 1;
            Wrong.refuses("fall(k, 0)", made, 0, last, -2, (x, v) -> x.fall(v, 0));
            Wrong.refuses("fall(k, 1)", made, 0, last, -2, (x, v) -> x.fall(v, 1));
            Wrong.refuses("fall(0, what)", made, 0, 1, -2, (x, v) -> x.fall(0, v));
            Wrong.refuses("fall(last, what)", made, 0, 1, -2, (x, v) -> x.fall(last, v));
        }
    }

    private static void fallNo() {
        for (int k = 0; k < 7; k++) {
            int knot = k;
            Twin.refused("above", Nets::unfed, x -> x.fall(knot, 0), -3);
            Twin.refused("below", Nets::unfed, x -> x.fall(knot, 1), -3);
        }
        Twin.refused("of a new one", ChipVolts::new, x -> x.fall(0, 0), -3);
        Due.due("fed", Nets.fullest().fall(6, 0), 0);
    }

    private static void greatest() {
        ChipVolts x = Nets.chain(1, 1, 1, 1, 1, 1);
        Due.due("of nothing pulled, the first", x.greatest(), 0);
        x.pull(6, 1);
        Due.due("the last", x.greatest(), 6);
        Twin.refused("asking changes nothing", Nets::small, ChipVolts::greatest, 2);
    }

    private static void greatestNo() {
        Twin.refused("of a new one", ChipVolts::new, ChipVolts::greatest, -3);
        Twin.refused("of one not fed", Nets::unfed, ChipVolts::greatest, -3);
    }

    private static void flow() {
        ChipVolts x = Nets.cable(12, 1);
        x.pull(1, 12);
        for (int w = 0; w < 12; w++) {
            NetSentences.dueFlow(x, w, -1, 1);
        }
        x.pull(1, 0);
        NetSentences.dueFlow(x, 0, 0, 1);
        NetSentences.dueFlow(x, 11, 0, 1);
    }

    private static void flowBelow0() {
        ChipVolts from = Nets.pair(1, 1);
        ChipVolts to = new ChipVolts();
        to.wire(1, 0, 1, 1);
        to.pad(0, true);
        for (int v : new int[] {0, 1, 2, 3, 4, 5, 99, 100}) {
            from.pull(1, v);
            NetSentences.dueFlow(from, 0, -v, 1);
            to.pull(1, v);
            NetSentences.dueFlow(to, 0, v, 1);
        }
        from.wire(0, 1, 1, 1);
        from.wire(0, 1, 1, 1);
        NetSentences.dueFlow(from, 2, -100, 3);
    }

    private static void flowBad() {
        for (Supplier<ChipVolts> made : Nets.fedAndNot()) {
            int last = made.get().count(1) - 1;
            Wrong.refuses("flow(w, 0)", made, 0, last, Nets.FLOW_BAD, (x, v) -> x.flow(v, 0));
            Wrong.refuses("flow(w, 1)", made, 0, last, Nets.FLOW_BAD, (x, v) -> x.flow(v, 1));
            Wrong.refuses("flow(last, what)", made, 0, 1, Nets.FLOW_BAD, (x, v) -> x.flow(last, v));
        }
        Twin.refused("no wires", ChipVolts::new, x -> x.flow(0, 0), Nets.FLOW_BAD);
        Twin.refused("no wires", Nets::allPads, x -> x.flow(0, 0), Nets.FLOW_BAD);
    }

    private static void flowNo() {
        for (int w = 0; w < 12; w++) {
            int wire = w;
            Twin.refused("above", Nets::unfed, x -> x.flow(wire, 0), Nets.FLOW_NO);
            Twin.refused("below", Nets::unfed, x -> x.flow(wire, 1), Nets.FLOW_NO);
        }
    }

    private static void resistParts() {
        ChipVolts x = Nets.chain(6, 5);
        Due.due("above", x.resist(2, 2, 0), 11);
        Due.due("below", x.resist(2, 2, 1), 30);
        Due.due("above", x.resist(1, 2, 0), 1);
        Due.due("below", x.resist(1, 2, 1), 6);
        Due.due("above of a pad", x.resist(0, 2, 0), 0);
        Due.due("below of a pad", x.resist(0, 2, 1), 1);
    }

    private static void resistBad() {
        for (Supplier<ChipVolts> made : Nets.fedAndNot()) {
            int last = made.get().count(0) - 1;
            Wrong.refuses("resist(a, last, 0)", made, 0, last, -2, (x, v) -> x.resist(v, last, 0));
            Wrong.refuses("resist(last, b, 1)", made, 0, last, -2, (x, v) -> x.resist(last, v, 1));
            Wrong.refuses("resist(0, last, what)", made, 0, 1, -2, (x, v) -> x.resist(0, last, v));
        }
    }

    private static void resistNo() {
        Twin.refused("of a new one", ChipVolts::new, x -> x.resist(0, 1, 0), -3);
        for (int k = 0; k < 7; k++) {
            int knot = k;
            Twin.refused("above", Nets::unfed, x -> x.resist(knot, 6 - knot, 0), -3);
            Twin.refused("below", Nets::unfed, x -> x.resist(knot, knot, 1), -3);
        }
    }
}
