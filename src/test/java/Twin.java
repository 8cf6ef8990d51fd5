import java.util.ArrayList;
import java.util.List;
import java.util.function.Supplier;
import java.util.function.ToLongFunction;

/** Whether a call that is refused, or only asks, changes nothing: a twin without that call tells the same. */
final class Twin {
    private Twin() {
    }

    static void refused(String call, Supplier<ChipVolts> made, ToLongFunction<ChipVolts> ask, long want) {
        changesNothing(call, made, told(made.get()), ask, want);
    }

    /** With what the twin tells, for those who ask many calls of one net. */
    static void changesNothing(String call, Supplier<ChipVolts> made, List<Long> twin,
            ToLongFunction<ChipVolts> ask, long want) {
        ChipVolts x = made.get();
        Due.due(call, ask.applyAsLong(x), want);
        Due.due(call + " changes nothing", told(x).equals(twin) ? 1 : 0, 1);
    }

    /** All that an object tells of itself, by some 300 calls. */
    static List<Long> told(ChipVolts x) {
        List<Long> all = new ArrayList<>();
        all.add(x.digest());
        for (int what = 0; what <= 5; what++) {
            all.add((long) x.count(what));
        }
        int knots = x.count(0);
        for (int what = 0; what <= 1; what++) {
            tellNet(x, knots, what, all);
        }
        tellChoices(x, knots, all);
        all.add(x.digest());
        return all;
    }

    private static void tellNet(ChipVolts x, int knots, int what, List<Long> all) {
        for (int a = 0; a < knots; a++) {
            all.add(x.fall(a, what));
            all.add(x.worstFall(a, what));
            for (int b = 0; b < knots; b++) {
                all.add(x.resist(a, b, what));
            }
            all.add(x.shrunk((1 << knots) - 1, a, (a + 1) % knots, what));
            all.add(x.shrunk(1 << a | 1 << (a + 1) % knots, a, (a + 1) % knots, what));
        }
        for (int w = 0; w < x.count(1); w++) {
            all.add(x.flow(w, what));
            all.add(x.open(w, what));
        }
        all.add(x.wokenFall(what));
    }

    private static void tellChoices(ChipVolts x, int knots, List<Long> all) {
        all.add((long) x.greatest());
        all.add((long) x.worstKnot());
        all.add((long) x.weakest());
        for (int b = 0; b < x.count(3); b++) {
            all.add((long) x.woken(b));
            for (int k = 0; k < knots; k++) {
                all.add((long) x.worst(k, b));
            }
        }
        for (int j = 1; j <= 3; j++) {
            all.add((long) x.pads(j));
        }
        for (int u = 0; u <= 3; u++) {
            all.add((long) x.widen(20, u));
        }
        for (int w = 0; w < x.count(1); w++) {
            all.add((long) x.widened(20, 2, w));
        }
    }
}
