import java.util.ArrayList;
import java.util.List;

/** Each call of the face that takes numbers, and what each number may be. */
final class Asked {
    /** The call with a row of numbers. */
    interface Call {
        long on(ChipVolts x, int[] v);
    }

    /** What a number tells. DOWN: a knot or wire picked from the last on, so that two knots differ. */
    enum Kind { KNOTS, KNOT, KNOT_DOWN, WIRE, BLOCK, WIDTH, PRICE, PULL, MOST, BUDGET, PART, PORTS, PADS, LIMIT, MORE, COUNT }

    final String name;
    final Call call;
    final Kind[] kinds;
    final long bad;
    final long no;

    private Asked(String name, Call call, long bad, long no, Kind... kinds) {
        this.name = name;
        this.call = call;
        this.bad = bad;
        this.no = no;
        this.kinds = kinds;
    }

    /** Changes, and calls that need no FALLS. */
    static List<Asked> withoutFalls() {
        List<Asked> all = new ArrayList<>();
        all.add(new Asked("net", (x, v) -> x.net(v[0]), -2, 0, Kind.KNOTS));
        all.add(new Asked("wire", (x, v) -> x.wire(v[0], v[1], v[2], v[3]), -2, 0,
                Kind.KNOT, Kind.KNOT_DOWN, Kind.WIDTH, Kind.PRICE));
        all.add(new Asked("width", (x, v) -> x.width(v[0], v[1]), -2, 0, Kind.WIRE, Kind.WIDTH));
        all.add(new Asked("pad, true", (x, v) -> x.pad(v[0], true), -2, 0, Kind.KNOT));
        all.add(new Asked("pad, false", (x, v) -> x.pad(v[0], false), -2, 0, Kind.KNOT));
        all.add(new Asked("pull", (x, v) -> x.pull(v[0], v[1]), -2, 0, Kind.KNOT, Kind.PULL));
        all.add(new Asked("block", (x, v) -> x.block(v[0], v[1]), -2, 0, Kind.KNOT, Kind.MOST));
        all.add(new Asked("budget", (x, v) -> x.budget(v[0]), -2, 0, Kind.BUDGET));
        all.add(new Asked("shrunk", (x, v) -> x.shrunk(v[0], v[1], v[2], v[3]), -2, 0,
                Kind.PORTS, Kind.KNOT, Kind.KNOT_DOWN, Kind.PART));
        all.add(new Asked("pads", (x, v) -> x.pads(v[0]), -2, 0, Kind.PADS));
        all.add(new Asked("count", (x, v) -> x.count(v[0]), -2, 0, Kind.COUNT));
        return all;
    }

    /** Calls that ask for FALLS. */
    static List<Asked> forFalls() {
        List<Asked> all = new ArrayList<>();
        all.add(new Asked("fall", (x, v) -> x.fall(v[0], v[1]), -2, -3, Kind.KNOT, Kind.PART));
        all.add(new Asked("flow", (x, v) -> x.flow(v[0], v[1]), Nets.FLOW_BAD, Nets.FLOW_NO, Kind.WIRE, Kind.PART));
        all.add(new Asked("resist", (x, v) -> x.resist(v[0], v[1], v[2]), -2, -3,
                Kind.KNOT, Kind.KNOT_DOWN, Kind.PART));
        all.add(new Asked("worst", (x, v) -> x.worst(v[0], v[1]), -2, -3, Kind.KNOT, Kind.BLOCK));
        all.add(new Asked("worstFall", (x, v) -> x.worstFall(v[0], v[1]), -2, -3, Kind.KNOT, Kind.PART));
        all.add(new Asked("open", (x, v) -> x.open(v[0], v[1]), -2, -3, Kind.WIRE, Kind.PART));
        all.add(new Asked("widen", (x, v) -> x.widen(v[0], v[1]), -2, -3, Kind.LIMIT, Kind.MORE));
        all.add(new Asked("widened", (x, v) -> x.widened(v[0], v[1], v[2]), -2, -3,
                Kind.LIMIT, Kind.MORE, Kind.WIRE));
        all.add(new Asked("wokenFall", (x, v) -> x.wokenFall(v[0]), -2, -3, Kind.PART));
        return all;
    }

    static List<Asked> all() {
        List<Asked> all = withoutFalls();
        all.addAll(forFalls());
        return all;
    }

    /** The least that a number may be in this state. */
    static int least(Kind kind, ChipVolts x) {
        return switch (kind) {
            case KNOTS -> 2;
            case WIDTH, PRICE, MOST, PADS -> 1;
            case PORTS -> (1 << x.count(0)) - 1;
            default -> 0;
        };
    }

    /** The most; below the least: none may be. */
    static int most(Kind kind, ChipVolts x) {
        return switch (kind) {
            case KNOTS -> 7;
            case KNOT, KNOT_DOWN -> x.count(0) - 1;
            case WIRE -> x.count(1) - 1;
            case BLOCK -> x.count(3) - 1;
            case WIDTH -> 6;
            case PRICE, PULL, BUDGET -> 100;
            case MOST -> 20;
            case PART -> 1;
            case PORTS -> (1 << x.count(0)) - 1;
            case PADS -> Math.min(3, x.count(0));
            case LIMIT -> 1000;
            case MORE -> 3;
            case COUNT -> 5;
        };
    }

    /** Each number the least (or the most) that it may be; of two knots the one from the other end. */
    int[] row(ChipVolts x, boolean most) {
        int[] row = new int[kinds.length];
        for (int i = 0; i < row.length; i++) {
            boolean up = most != (kinds[i] == Kind.KNOT_DOWN);
            row[i] = up ? most(kinds[i], x) : least(kinds[i], x);
        }
        return row;
    }

    /** Whether there are a wire and a block for each number that names one. */
    boolean canBeAsked(ChipVolts x) {
        for (Kind kind : kinds) {
            if (most(kind, x) < least(kind, x)) {
                return false;
            }
        }
        return true;
    }
}
