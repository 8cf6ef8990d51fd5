import java.util.Arrays;
import java.util.List;
import java.util.function.Supplier;

/** Each part of the row 'Refused', for every call; the constants; the 512th call. */
final class RefusedSentences {
    private RefusedSentences() {
    }

    static void all() {
        Sentence.holds("Refused", "Refused, changing nothing,", RefusedSentences::changingNothing);
        Sentence.holds("Refused", "the first of:", RefusedSentences::theFirstOf);
        Sentence.holds("Refused", "BAD -2 a number is not as told;", RefusedSentences::aNumberNotAsTold);
        Sentence.holds("Refused", "NO -3 as told", RefusedSentences::noAsTold);
        Sentence.holds("Refused", "(THE NET is not FED, too, where FALLS are asked for);", RefusedSentences::notFed);
        Sentence.holds("Refused", "FULL -4.", RefusedSentences::full);
        Sentence.holds("The public face", "NONE = -1, BAD = -2, NO = -3, FULL = -4;", RefusedSentences::constants);
        Sentence.holds("What it is", "An object is used for at most 512 calls after it has been made;",
                RefusedSentences::lastCall);
    }

    private static List<Supplier<ChipVolts>> states() {
        return List.of(ChipVolts::new, Nets::small, Nets::smallUnfed, Nets::fullest, Nets::unfed, Nets::allPads);
    }

    /** One object is refused again and again, its twin never. */
    private static void changingNothing() {
        for (Supplier<ChipVolts> made : states()) {
            List<Long> twin = Twin.told(made.get());
            ChipVolts x = made.get();
            for (Asked asked : Asked.all()) {
                for (int i = 0; i < asked.kinds.length; i++) {
                    int[] row = asked.row(x, true);
                    row[i] = Asked.most(asked.kinds[i], x) + 1;
                    Due.due(asked.name, asked.call.on(x, row), asked.bad);
                }
            }
            for (int k = 0; k < x.count(0); k++) {
                boolean is = made.get().pad(k, true) == -3;
                Due.due("pad(" + k + ", " + is + ")", x.pad(k, is), -3);
            }
            Due.due("changed by what was refused", Twin.told(x).equals(twin) ? 0 : 1, 0);
        }
        ChipVolts full = Nets.fullest();
        for (int i = 0; i < 20; i++) {
            Due.due("wire", full.wire(0, 1, 1, 1), -4);
            Due.due("block", full.block(0, 1), -4);
        }
        Due.due("changed by what was full", Twin.told(full).equals(Twin.told(Nets.fullest())) ? 0 : 1, 0);
    }

    /** All that is wrong at once: BAD ahead of NO and of FULL. */
    private static void theFirstOf() {
        for (Supplier<ChipVolts> made : states()) {
            for (Asked asked : Asked.all()) {
                ChipVolts x = made.get();
                int[] above = asked.row(x, true);
                int[] below = asked.row(x, false);
                for (int i = 0; i < above.length; i++) {
                    above[i] = Asked.most(asked.kinds[i], x) + 1;
                    below[i] = Asked.least(asked.kinds[i], x) - 1;
                }
                Due.due(asked.name + Arrays.toString(above), asked.call.on(x, above), asked.bad);
                Due.due(asked.name + Arrays.toString(below), asked.call.on(x, below), asked.bad);
            }
        }
        Due.due("not fed, and wrong", Nets.unfed().fall(7, 0), -2);
        Due.due("not fed, and right", Nets.unfed().fall(6, 0), -3);
        Due.due("full, and wrong", Nets.fullest().wire(0, 1, 7, 1), -2);
        Due.due("full, and right", Nets.fullest().wire(0, 1, 6, 1), -4);
        Due.due("full, and wrong", Nets.fullest().block(6, 21), -2);
        Due.due("full, and right", Nets.fullest().block(6, 20), -4);
        Due.due("is so, and wrong", new ChipVolts().pad(2, false), -2);
        Due.due("is so, and right", new ChipVolts().pad(1, false), -3);
        Due.due("not all pads, and wrong", Nets.small().shrunk(6, 0, 1, 0), -2);
        Due.due("not all pads, and right", Nets.small().shrunk(6, 2, 1, 0), -3);
    }

    /** Each number of each call, all others as told: one below, one above and far off. */
    private static void aNumberNotAsTold() {
        for (Supplier<ChipVolts> made : states()) {
            List<Long> twin = Twin.told(made.get());
            for (Asked asked : Asked.all()) {
                for (int i = 0; i < asked.kinds.length; i++) {
                    oneNumber(made, twin, asked, i);
                }
            }
        }
    }

    private static void oneNumber(Supplier<ChipVolts> made, List<Long> twin, Asked asked, int i) {
        ChipVolts state = made.get();
        boolean isPorts = asked.kinds[i] == Asked.Kind.PORTS;
        int least = isPorts ? 1 : Asked.least(asked.kinds[i], state);
        int most = Asked.most(asked.kinds[i], state);
        for (int v : Wrong.outside(least, most)) {
            for (boolean high : new boolean[] {false, true}) {
                int[] row = asked.row(state, high);
                row[i] = v;
                Twin.changesNothing(asked.name + Arrays.toString(row), made, twin,
                        x -> asked.call.on(x, row), asked.bad);
            }
        }
        if (asked.canBeAsked(state)) {
            for (boolean high : new boolean[] {false, true}) {
                int[] row = asked.row(state, high);
                long told = asked.call.on(made.get(), row);
                Due.due(asked.name + Arrays.toString(row) + " is BAD", told == asked.bad ? 1 : 0, 0);
            }
        }
    }

    private static void noAsTold() {
        Twin.refused("pad: it is so", Nets::fullest, x -> x.pad(6, true), -3);
        Twin.refused("pad: it is so", Nets::fullest, x -> x.pad(0, false), -3);
        Twin.refused("open: not fed without it", Nets::small, x -> x.open(0, 0), -3);
        Twin.refused("shrunk: a pad is no port", Nets::small, x -> x.shrunk(6, 1, 2, 0), -3);
        Twin.refused("pads: by none it is fed", Nets::allPads, x -> x.pads(3), -3);
        Due.due("fed: no NO", Nets.small().greatest(), 2);
    }

    private static void notFed() {
        for (Supplier<ChipVolts> made : List.<Supplier<ChipVolts>>of(Nets::smallUnfed, Nets::unfed)) {
            List<Long> twin = Twin.told(made.get());
            for (Asked asked : Asked.forFalls()) {
                for (boolean high : new boolean[] {false, true}) {
                    int[] row = asked.row(made.get(), high);
                    Twin.changesNothing(asked.name + Arrays.toString(row), made, twin,
                            x -> asked.call.on(x, row), asked.no);
                }
            }
            Twin.changesNothing("greatest()", made, twin, ChipVolts::greatest, -3);
            Twin.changesNothing("worstKnot()", made, twin, ChipVolts::worstKnot, -3);
            Twin.changesNothing("woken(0)", made, twin, x -> x.woken(0), -3);
            // these ask for no falls of the net as it is
            for (Asked asked : Asked.withoutFalls()) {
                for (boolean high : new boolean[] {false, true}) {
                    long told = asked.call.on(made.get(), asked.row(made.get(), high));
                    boolean isSo = asked.name.equals("pad, false");
                    Due.due(asked.name + " answers NO", told == -3 ? 1 : 0, isSo ? 1 : 0);
                }
            }
            Twin.changesNothing("weakest()", made, twin, ChipVolts::weakest, 0);
        }
        for (Asked asked : Asked.forFalls()) {
            ChipVolts x = Nets.fullest();
            long told = asked.call.on(x, asked.row(x, true));
            Due.due(asked.name + " of a net that is fed answers NO", told == asked.no ? 1 : 0, 0);
        }
    }

    private static void full() {
        Due.due("the twelfth wire", Nets.cable(11, 1).wire(0, 1, 1, 1), 11);
        Twin.refused("the thirteenth", () -> Nets.cable(12, 1), x -> x.wire(0, 1, 1, 1), -4);
        ChipVolts x = new ChipVolts();
        for (int b = 0; b < 6; b++) {
            Due.due("block " + b, x.block(0, 1), b);
        }
        Due.due("the seventh block", x.block(0, 1), -4);
        x.net(2);
        Due.due("after net", x.block(0, 1), 0);
        // the one full, the other not
        Due.due("twelve wires, no blocks", Nets.cable(12, 1).block(0, 1), 0);
    }

    private static void constants() {
        Due.due("NONE", ChipVolts.NONE, -1);
        Due.due("BAD", ChipVolts.BAD, -2);
        Due.due("NO", ChipVolts.NO, -3);
        Due.due("FULL", ChipVolts.FULL, -4);
    }

    private static void lastCall() {
        ChipVolts x = new ChipVolts();
        x.wire(0, 1, 1, 1);
        x.pad(0, true);
        int was = 0;
        for (int call = 3; call <= 511; call++) {
            Due.due("call " + call, x.pull(1, call % 101), was);
            was = call % 101;
        }
        Due.due("call 512", x.fall(1, 0), was);
        // 512 of the dearest, each answered as the first
        ChipVolts full = Nets.fullest();
        for (int w = 0; w < 12; w++) {
            full.width(w, 3);
        }
        int first = full.widen(60, 3);
        for (int call = 42; call <= 512; call++) {
            Due.due("call " + call, full.widen(60, 3), first);
        }
    }
}
