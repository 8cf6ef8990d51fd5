import java.util.Arrays;
import java.util.List;
import java.util.function.Supplier;

/** Numbers that are not as told: one below, one above, and far ones that a wrap could take for good ones. */
final class Wrong {
    /** A call with one number of it left open. */
    interface Asks {
        long ask(ChipVolts x, int v);
    }

    private Wrong() {
    }

    static int[] outside(int least, int most) {
        int[] all = {least - 1, most + 1, least - 2, most + 2, least + 8, least + 16, least + 32, least + 64,
            least + 256, least + 65536, least + (1 << 31), most + (1 << 31), Integer.MIN_VALUE,
            Integer.MIN_VALUE + 1, Integer.MAX_VALUE};
        return Arrays.stream(all).filter(v -> v < least || v > most).distinct().toArray();
    }

    /** Each number outside is answered so, and changes nothing; the least and the most are taken. */
    static void refuses(String call, Supplier<ChipVolts> made, int least, int most, long answer, Asks asks) {
        List<Long> twin = Twin.told(made.get());
        for (int v : outside(least, most)) {
            Twin.changesNothing(call + " with " + v, made, twin, x -> asks.ask(x, v), answer);
        }
        for (int v = least; v <= most; v += Math.max(1, most - least)) {
            long told = asks.ask(made.get(), v);
            Due.due(call + " with " + v + " is refused", told == answer ? 1 : 0, 0);
        }
    }
}
